/** Each promise with ordinary inputs, the edges that the document names, and wrong inputs. */
public final class PromisesTest {
    private static final int NONE = Check.NONE;
    private static final int UNKNOWN = Check.UNKNOWN;
    private static final int OUTSIDE = Check.OUTSIDE;
    private static final int NOT = Check.NOT;
    private static final int FULL = Check.FULL;

    /** 4 by 1: dry, 3 deep, dry, 5 deep; low water every other hour. */
    private static final String DITCH =
        "land 4 1; row 0 0,3,0,5; tide 5,3; man 0 0 1; man 2 0 2; news 0 0; castle 3 0;";

    private final Check check = new Check();

    public static void main(String[] args) {
        PromisesTest t = new PromisesTest();
        t.newObject();
        t.feed();
        t.province();
        t.provinceOfBlanks();
        t.whatProvinceClears();
        t.faults();
        t.textsWithoutFault();
        t.told();
        t.depth();
        t.man();
        t.order();
        t.hour();
        t.sharing();
        t.wetKnees();
        t.drift();
        t.saw();
        t.stake();
        t.canBe();
        t.canHear();
        t.first();
        t.sawed();
        t.bestStake();
        t.inch();
        t.nobody();
        t.alone();
        t.trackSeeFits();
        t.book();
        t.judge();
        t.seed();
        t.images();
        t.check.end();
    }

    private void due(String call, long got, long want) {
        check.due(call, got, want);
    }

    private void newObject() {
        StiltHeralds x = new StiltHeralds();
        int[] empty = {0, 0, 1, 0, 0, 0, 0, 0, 0, 0, 0};
        for (int what = 0; what < empty.length; what++) {
            due("new told(" + what + ")", x.told(what), empty[what]);
        }
        due("new fault", x.fault(), NONE);
        due("new depth", x.depth(0, 0, 0), UNKNOWN);
        due("new man", x.man(0, 0), UNKNOWN);
        due("new order", x.order(0, 0), UNKNOWN);
        due("new hour", x.hour(1), NOT);
        due("new hour outside", x.hour(0), OUTSIDE);
        due("new drift", x.drift(1), NOT);
        due("new drift outside", x.drift(100), OUTSIDE);
        due("new saw", x.saw(0, 0), UNKNOWN);
        due("new stake", x.stake(0, 0, true), UNKNOWN);
        due("new canBe", x.canBe(0, 0, 0), UNKNOWN);
        due("new canHear", x.canHear(0, 0), UNKNOWN);
        due("new first", x.first(0, 0), UNKNOWN);
        due("new sawed", x.sawed(0, 0, NONE), UNKNOWN);
        due("new bestStake", x.bestStake(0, 0), UNKNOWN);
        due("new bestStake outside", x.bestStake(0, 9), UNKNOWN);
        due("new inch", x.inch(0, 0), UNKNOWN);
        due("new nobody count", x.nobody(NONE), 0);
        due("new nobody 0", x.nobody(0), NONE);
        due("new alone", x.alone(0), UNKNOWN);
        due("new track", x.track(0, 0), UNKNOWN);
        due("new see", x.see(0, 0, 0), UNKNOWN);
        due("new fits", x.fits(), NOT);
        due("new write", x.write(0, 0), UNKNOWN);
        due("new tear", x.tear(), 0);
        due("new judge", x.judge(), NONE);
        due("new seed", x.seed(7), 0);
        due("new goBack", x.goBack(0), NOT);
        due("new keep", x.keep(0), 1);
        due("seed behind keep", x.seed(9), 7);
        due("new goBack behind keep", x.goBack(0), 1);
        due("seed of the image", x.seed(0), 7);
    }

    private void feed() {
        StiltHeralds x = new StiltHeralds();
        due("feed 0", x.feed(0, 0), OUTSIDE);
        due("feed 9", x.feed(9, 0), OUTSIDE);
        due("feed -1", x.feed(-1, 0), OUTSIDE);
        due("feed low bytes", x.feed(3, Check.pack("xxxxxlan", 0, 8)), 3);
        due("feed rest", x.feed(6, Check.pack("d 1 1;", 0, 6)), 9);
        due("bytes", x.told(5), 9);
        due("fed", x.province(), 1);
        due("bytes behind province", x.told(5), 0);
        for (int k = 1; k <= 62; k++) {
            due("feed 8", x.feed(8, 0x2020202020202020L), 8 * k);
        }
        due("feed full", x.feed(5, 0), FULL);
        due("feed full 8", x.feed(8, 0), FULL);
        due("outside ahead of full", x.feed(9, 0), OUTSIDE);
        due("still 496", x.told(5), 496);
        due("feed up to 500", x.feed(4, 0x20202020), 500);
        due("feed beyond 500", x.feed(1, 32), FULL);
        due("still 500", x.told(5), 500);
        due("500 blanks are an empty text", x.province(), 0);
        due("500 blanks have no fault", x.fault(), NONE);
    }

    private void province() {
        StiltHeralds x = new StiltHeralds();
        due("cells", Check.province(x, "land 9 4;"), 36);
        due("cells", Check.province(x, "land 4 9;"), 36);
        due("cells", Check.province(x, "land 6 6;"), 36);
        due("cells", Check.province(x, "land 1 1;"), 1);
        due("faulty", Check.province(x, "land 1 2"), -11);
        due("as it was", x.told(1), 1);
        due("text is gone", x.told(5), 0);
        due("fault", x.fault(), 8);
        due("empty", x.province(), 0);
        due("no fault", x.fault(), NONE);
        due("no cells", x.told(0), 0);
        due("no rows", x.told(1), 0);
        due("no castle", x.told(7), 0);
        due("depths untold are 0 again", Check.province(x, "land 2 1;row 0 4,4;"), 2);
        due("depths untold are 0 again", Check.province(x, "land 2 1;"), 2);
        due("depths untold are 0 again", x.depth(1, 0, 0), 0);
    }

    /** Blanks tell nothing, so a text of blanks alone is as an empty one; no other byte is as a blank. */
    private void provinceOfBlanks() {
        for (String blanks : new String[] {"", " ", "  ", "         "}) {
            StiltHeralds x = Check.of(DITCH);
            x.keep(0);
            x.write(0, 1);
            due("a fault ahead", Check.province(x, " ;"), -11);
            due("a fault ahead", x.fault(), 1);
            due("blanks", Check.province(x, blanks), 0);
            due("blanks: no fault", x.fault(), NONE);
            due("blanks: no cells", x.told(0) + x.told(1), 0);
            due("blanks: no men", x.told(3), 0);
            due("blanks: no news", x.told(4), 0);
            due("blanks: no text", x.told(5), 0);
            due("blanks: no book", x.told(9), 0);
            due("blanks: no image", x.goBack(0), NOT);
            due("blanks: no hour", x.hour(1), NOT);
            due("blanks: land behind them", Check.province(x, blanks + "land 2 1;" + blanks), 2);
        }
        StiltHeralds x = new StiltHeralds();
        for (int sign : new int[] {0, 9, 10, 13, 31, 33, 160, 255}) {
            due("no blank: " + sign, Check.province(x, " " + (char) sign + " "), -11);
            due("no blank: " + sign, x.fault(), 1);
        }
        due("a word alone", Check.province(x, "  land  "), -11);
        due("a word alone", x.fault(), 8);
    }

    private void whatProvinceClears() {
        StiltHeralds x = Check.of(DITCH);
        x.seed(5);
        x.order(0, 2);
        x.hour(3);
        x.stake(1, 0, true);
        x.track(0, 0);
        x.see(0, 0, 0);
        x.write(0, 1);
        x.keep(0);
        x.keep(1);
        due("a fault", Check.province(x, "land 4 1;;"), -11);
        due("hour as it was", x.told(6), 3);
        due("seen as they were", x.told(8), 1);
        due("book as it was", x.told(9), 1);
        due("order as it was", x.man(0, 6), 2);
        due("stake as it was", x.depth(1, 0, 0), 0);
        due("track as it was", x.fits(), 127);
        due("image as it was", x.goBack(1), 1);
        due("province", Check.province(x, DITCH), 4);
        due("hour 0", x.told(6), 0);
        due("none seen", x.told(8), 0);
        due("no book", x.told(9), 0);
        due("no order", x.man(0, 6), 0);
        due("no stake", x.depth(1, 0, 0), 3);
        due("no track", x.fits(), NOT);
        due("image 0 gone", x.goBack(0), NOT);
        due("image 1 gone", x.goBack(1), NOT);
        due("seed stays", x.seed(0), 5);
    }

    private void fault(String text, int kind, int at) {
        StiltHeralds x = new StiltHeralds();
        due("fault of '" + text + "'", Check.province(x, text), -10 - kind);
        due("place of the fault of '" + text + "'", x.fault(), at);
        due("cells behind the fault", x.told(0), 0);
        due("good one", Check.province(x, "land 1 1;"), 1);
        due("no fault then", x.fault(), NONE);
    }

    private void faults() {
        fault("; land 1 1;", 1, 0);
        fault("  lan 1 1;", 1, 2);
        fault("lands 1 1;", 1, 0);
        fault("LAND 1 1;", 1, 0);
        fault("landz 1 1;", 1, 0);
        fault("landa 1 1;", 1, 0);
        fault("land{ 1 1;", 1, 4);
        fault("land` 1 1;", 1, 4);
        fault("land 1: 1;", 1, 6);
        fault("land 1/ 1;", 1, 6);
        fault("landland 1 1;", 1, 0);
        fault("man 0 0 0;land 1 1;", 1, 0);
        fault("land", 1, 4);
        fault("land  ", 1, 6);
        fault("land 1", 1, 6);
        fault("land 1 1", 1, 8);
        fault("land 1,1;", 1, 6);
        fault("land 1 1 1;", 1, 9);
        fault("land 1 1;;", 1, 9);
        fault("land 1 1; 5", 1, 10);
        fault("land 1 1; 5555", 1, 10);
        fault("land a 1;", 1, 5);
        fault("land 1 a;", 1, 7);
        fault("land -1 1;", 1, 5);
        fault("land 1 1;\n", 1, 9);
        fault("land 1 1;\u00ff", 1, 9);
        fault("land\t1 1;", 1, 4);
        fault("land 11;", 2, 5);
        fault("land 0 1;", 2, 5);
        fault("land 1 0;", 2, 7);
        fault("land 1 10;", 2, 7);
        fault("land 0001 1;", 2, 5);
        fault("land 1 0001;", 2, 7);
        fault("land 4 10;", 2, 7);
        fault("land 5 8;", 2, 7);
        fault("land 6 7;", 2, 7);
        fault("land 7 6;", 2, 7);
        fault("land 8 5;", 2, 7);
        fault("land 99999999999999999999999999 1;", 2, 5);
        fault("land 2 2; land 2 2;", 3, 10);
        fault("land 2 2; land", 3, 10);
        fault("land 2 2; lan", 1, 10);
        fault("land 2 2;row 2 1,1;", 2, 13);
        fault("land 2 2;row 0 1,10;", 2, 17);
        fault("land 2 2;row 0 1,0009;", 2, 17);
        fault("land 2 2;row 0 1 1;", 1, 17);
        fault("land 2 2;row 0 ,1;", 1, 15);
        fault("land 2 2;row 0 ;", 1, 15);
        fault("land 2 2;row 0 1 ;", 1, 17);
        fault("land 2 2;row 0 1,;", 1, 17);
        fault("land 2 2;row 0 1,1 ,1;", 1, 19);
        fault("land 2 2;row 0 1,1", 1, 18);
        fault("land 2 2;row 0 1", 1, 16);
        fault("land 2 2;row 0 1,1;row  0 9999;", 4, 24);
        fault("land 2 2;row 1 1,1;row 001;", 4, 23);
        fault("land 2 2;row 1 1,1;row 0001;", 2, 23);
        fault("land 2 2;tide;", 1, 13);
        fault("land 2 2;tide 1,;", 1, 16);
        fault("land 2 2;tide 1 1;", 1, 16);
        fault("land 2 2;tide 1,10;", 2, 16);
        fault("land 2 2;tide 1,1,1,1,1,1 ,", 1, 26);
        fault("land 2 2;tide 1,1,1,1,1,1,", 1, 25);
        fault("land 2 2;tide 1;tide", 3, 16);
        fault("land 2 2;castle 2 0;", 2, 16);
        fault("land 2 2;castle 0 2;", 2, 18);
        fault("land 2 2;castle 0;", 1, 17);
        fault("land 2 2;castle 0 0 0;", 1, 20);
        fault("land 2 2;castle 0 0; castle x", 3, 21);
        fault("land 2 2;man 2 0 0;", 2, 13);
        fault("land 2 2;man 0 2 0;", 2, 15);
        fault("land 2 2;man 0 0;", 1, 16);
        fault("land 2 2;man 0 0 0 0;", 1, 19);
        fault("land 1 1;man 0 0 0;man 0 0 0;man 0 0 0;man 0 0 0;man 0 0 0;", 3, 49);
        fault("land 1 1;news 1 0;", 2, 14);
        fault("land 1 1;news 0 0,", 1, 17);
        fault("land 1 1;news 0 0;news 0 0;news 0 0;news 0 0;news", 3, 45);
        fault("land 1 1;mannews 0 0;", 1, 9);
    }

    private void textsWithoutFault() {
        StiltHeralds x = new StiltHeralds();
        due("no blank", Check.province(x, "land2 2;row0 1,2;man1 1 6;news0 1;castle1 0;tide0;"), 4);
        due("castle", x.told(7), 10);
        due("news", x.told(4), 1);
        due("tide", x.told(2), 1);
        due("man", x.man(0, 2), 6);
        due("blanks", Check.province(x, "  land  002   02  ;  row 001 1 , 009 ; tide 5 , 9 ;  "), 4);
        due("depth of 009 at 9", x.depth(1, 1, 1), 13);
        due("four of each", Check.province(x,
            "land 1 1;man 0 0 0;man 0 0 0;man 0 0 0;man 0 0 0;news 0 0;news 0 0;news 0 0;news 0 0;"), 1);
        due("four men", x.told(3), 4);
        due("four news", x.told(4), 4);
        due("all heard at hour 0", x.man(3, 3), 15);
        due("six tides", Check.province(x, "land 1 1;tide 0,1,2,3,4,5;"), 1);
        due("six tides", x.told(2), 6);
    }

    private void told() {
        StiltHeralds x = Check.of("land 3 2;tide 1,2;man 1 1 0;news 1 1;news 0 0;castle 1 1;");
        x.feed(2, 0);
        x.track(0, 0);
        x.see(0, 0, 0);
        x.see(0, 0, 0);
        x.write(0, 0);
        x.write(0, 0);
        x.write(0, 0);
        x.hour(7);
        int[] want = {3, 2, 2, 1, 2, 2, 7, 11, 2, 3, 1};
        for (int what = 0; what < want.length; what++) {
            due("told(" + what + ")", x.told(what), want[what]);
        }
        due("told(-1)", x.told(-1), OUTSIDE);
        due("told(11)", x.told(11), OUTSIDE);
        x.order(0, 1);
        x.hour(1);
        due("nobody at the castle, nothing is known there", x.told(10), 0);
        x.order(0, 4);
        x.hour(1);
        due("he knows both", x.man(0, 3), 3);
        x.order(0, 2);
        x.hour(1);
        x.order(0, 3);
        x.hour(1);
        due("both at the castle", x.told(10), 3);
        due("castle untold", Check.of("land 2 2;").told(7), 0);
    }

    private void depth() {
        StiltHeralds x = Check.of("land 2 2;row 1 1,9;tide 9,0,5;");
        due("9 at 9", x.depth(1, 1, 0), 13);
        due("9 at 0", x.depth(1, 1, 1), 4);
        due("9 at 5", x.depth(1, 1, 2), 9);
        due("9 at 9 again", x.depth(1, 1, 99), 13);
        due("never below 0", x.depth(0, 1, 1), 0);
        due("untold row", x.depth(0, 0, 0), 4);
        x.hour(1);
        due("from now", x.depth(1, 1, 0), 4);
        due("from now", x.depth(1, 1, 1), 9);
        x.stake(1, 1, true);
        due("a stake", x.depth(1, 1, 2), 0);
        due("a stake elsewhere", x.depth(0, 1, 2), 5);
        due("x", x.depth(2, 0, 0), UNKNOWN);
        due("x", x.depth(-1, 0, 0), UNKNOWN);
        due("y", x.depth(0, 2, 0), UNKNOWN);
        due("y", x.depth(0, -1, 0), UNKNOWN);
        due("unknown first", x.depth(0, 2, 100), UNKNOWN);
        due("n", x.depth(0, 0, 100), OUTSIDE);
        due("n", x.depth(0, 0, -1), OUTSIDE);
    }

    private void man() {
        StiltHeralds x = Check.of("land 3 2;row 1 0,0,5;man 2 1 4;news 2 1;");
        int[] want = {2, 1, 4, 1, 0, 1, 0};
        for (int what = 0; what < want.length; what++) {
            due("man(0, " + what + ")", x.man(0, what), want[what]);
        }
        due("man(1, 0)", x.man(1, 0), UNKNOWN);
        due("man(-1, 0)", x.man(-1, 0), UNKNOWN);
        due("man(1, 7)", x.man(1, 7), UNKNOWN);
        due("man(0, 7)", x.man(0, 7), OUTSIDE);
        due("man(0, -1)", x.man(0, -1), OUTSIDE);
        x.hour(3);
        due("wet knees", x.man(0, 4), 3);
        x.saw(0, 5);
        due("dry by longer stilts", x.man(0, 5), 0);
        due("wet knees stay", x.man(0, 4), 3);
    }

    private void order() {
        StiltHeralds x = Check.of("land 5 1;man 0 0 0;man 4 0 0;");
        due("order", x.order(0, 2), 0);
        due("order", x.order(1, 4), 0);
        due("ordered", x.man(0, 6), 2);
        due("unknown", x.order(2, 0), UNKNOWN);
        due("unknown", x.order(-1, 9), UNKNOWN);
        due("outside", x.order(0, 5), OUTSIDE);
        due("outside", x.order(0, -1), OUTSIDE);
        due("refused changes nothing", x.man(0, 6), 2);
        x.hour(2);
        due("it stays", x.man(0, 6), 2);
        due("he went on", x.man(0, 0), 2);
        due("order", x.order(0, 0), 2);
        x.hour(2);
        due("he stays", x.man(0, 0), 2);
        due("the other went on", x.man(1, 0), 0);
    }

    private void hour() {
        StiltHeralds x = Check.of("land 3 3;row 0 0,2,0;row 1 2,0,2;row 2 0,2,0;tide 5,4;man 1 1 1;");
        due("hour(0)", x.hour(0), OUTSIDE);
        due("hour(100)", x.hour(100), OUTSIDE);
        due("hour(-1)", x.hour(-1), OUTSIDE);
        due("refused changes nothing", x.told(6), 0);
        int[] dx = {0, 0, 1, 0, -1};
        int[] dy = {0, -1, 0, 1, 0};
        for (int way = 0; way <= 4; way++) {
            x = Check.of("land 3 3;row 0 0,2,0;row 1 2,0,2;row 2 0,2,0;tide 5,4;man 1 1 1;");
            x.order(0, way);
            due("an hour", x.hour(1), 1);
            due("way " + way, x.man(0, 0), 1 + dx[way]);
            due("way " + way, x.man(0, 1), 1 + dy[way]);
            x.order(0, 0);
            x.hour(1);
            due("he may stay though he is wet", x.man(0, 0), 1 + dx[way]);
            due("wet", x.man(0, 5), way == 0 ? 0 : 1);
        }
        x = Check.of("land 3 3;row 0 0,2,0;row 1 2,0,2;row 2 0,2,0;tide 4,5;man 1 1 1;");
        x.order(0, 1);
        x.hour(1);
        due("too deep at the hour that comes", x.man(0, 1), 1);
        x.hour(1);
        due("then it is not", x.man(0, 1), 0);
        x.hour(5);
        due("not out of the land", x.man(0, 1), 0);
        due("99 hours", x.hour(99), 106);
        x = Check.of("land 2 1;man 0 0 0;man 1 0 0;news 0 0;");
        x.order(0, 2);
        x.order(1, 4);
        x.hour(1);
        due("they pass one another", x.man(0, 0), 1);
        due("they pass one another", x.man(1, 0), 0);
        due("heard by himself", x.man(1, 3), 1);
    }

    private void sharing() {
        StiltHeralds x = Check.of("land 5 1;man 0 0 0;man 2 0 0;man 4 0 0;man 3 0 0;news 0 0;news 4 0;news 2 0;");
        due("hour 0", x.man(0, 3), 1);
        due("hour 0", x.man(1, 3), 4);
        due("hour 0", x.man(2, 3), 2);
        due("hour 0", x.man(3, 3), 0);
        x.order(0, 2);
        x.order(2, 4);
        x.order(3, 4);
        x.hour(1);
        due("the third of a pair", x.man(1, 3), 4);
        due("the third of a pair", x.man(3, 3), 4);
        due("alone", x.man(0, 3), 1);
        due("alone", x.man(2, 3), 2);
        x.order(3, 0);
        x.hour(1);
        for (int m = 0; m < 4; m++) {
            due("all know all", x.man(m, 3), 7);
        }
        x = Check.of("land 1 1;man 0 0 0;man 0 0 0;news 0 0;castle 0 0;");
        due("shared at hour 0", x.man(1, 3), 1);
        due("at the castle at hour 0", x.told(10), 1);
    }

    private void wetKnees() {
        StiltHeralds x = Check.of("land 1 1;row 0 3;tide 5,6,7;man 0 0 4;man 0 0 3;man 0 0 2;");
        due("hour 0 does not count", x.man(2, 4), 0);
        due("wet at hour 0", x.man(2, 5), 1);
        x.hour(1);
        due("4 in 4", x.man(0, 4), 0);
        due("3 in 4", x.man(1, 4), 1);
        due("2 in 4", x.man(2, 4), 1);
        x.hour(2);
        due("4 in 5 once", x.man(0, 4), 1);
        due("3 twice", x.man(1, 4), 2);
        due("2 ever", x.man(2, 4), 3);
        due("3 in 3 is not wet", x.man(1, 5), 0);
        x.stake(0, 0, true);
        due("dry on a stake", x.man(2, 5), 0);
        x.hour(5);
        due("dry on a stake", x.man(2, 4), 3);
    }

    private void drift() {
        StiltHeralds x = Check.of("land 3 3;man 1 1 6;man 1 1 6;");
        due("drift(0)", x.drift(0), OUTSIDE);
        due("drift(100)", x.drift(100), OUTSIDE);
        due("no draw was made", x.seed(0), 0);
        due("drift(1)", x.drift(1), 1);
        // 12345 / 65536 is 0; the next one is (12345 * 1103515245 + 12345) mod 2^31 = 1406932606
        due("first draw", x.man(0, 6), 0);
        due("second draw", x.man(1, 6), 1406932606 / 65536 % 5);
        due("the seed", x.seed(2147483647), 1406932606);
        long seed = 2147483647L;
        due("drift(9)", x.drift(9), 10);
        for (int k = 0; k < 18; k++) {
            seed = (seed * 1103515245L + 12345L) % 2147483648L;
        }
        due("two draws an hour", x.seed(0), seed);
        due("drift(99)", x.drift(99), 109);
    }

    private void saw() {
        StiltHeralds x = Check.of("land 2 1;row 0 0,4;man 0 0 3;");
        due("saw", x.saw(0, 4), 3);
        due("can", x.canBe(0, 1, 0), 1);
        due("saw", x.saw(0, 0), 4);
        due("cannot", x.canBe(0, 1, 0), NONE);
        due("saw 6", x.saw(0, 6), 0);
        due("saw 7", x.saw(0, 7), OUTSIDE);
        due("saw -1", x.saw(0, -1), OUTSIDE);
        due("saw of nobody", x.saw(1, 7), UNKNOWN);
        due("saw of nobody", x.saw(-1, 0), UNKNOWN);
        due("refused changes nothing", x.man(0, 2), 6);
    }

    private void stake() {
        StiltHeralds x = Check.of("land 9 4;row 3 9,9,9,9,9,9,9,9,9;");
        due("stake", x.stake(8, 3, true), 0);
        due("stake again", x.stake(8, 3, true), 1);
        due("depth", x.depth(8, 3, 0), 0);
        due("beside it", x.depth(7, 3, 0), 9);
        due("another", x.stake(0, 3, true), 0);
        due("no stake", x.stake(8, 3, false), 1);
        due("no stake again", x.stake(8, 3, false), 0);
        due("the other stays", x.depth(0, 3, 0), 0);
        due("depth is back", x.depth(8, 3, 0), 9);
        due("x", x.stake(9, 0, true), UNKNOWN);
        due("x", x.stake(-1, 0, true), UNKNOWN);
        due("y", x.stake(0, 4, true), UNKNOWN);
        due("y", x.stake(0, -1, true), UNKNOWN);
    }

    private void canBe() {
        StiltHeralds x = Check.of(DITCH);
        due("where he is", x.canBe(0, 0, 0), 0);
        due("at low water", x.canBe(0, 1, 0), 1);
        due("behind it", x.canBe(0, 2, 0), 2);
        due("never", x.canBe(0, 3, 0), NONE);
        due("the other", x.canBe(1, 1, 0), 1);
        due("not even he", x.canBe(1, 3, 0), NONE);
        x.hour(1);
        due("he waits for low water", x.canBe(0, 1, 0), 2);
        x.stake(1, 0, true);
        due("on the stake", x.canBe(0, 1, 0), 1);
        due("unknown", x.canBe(2, 0, 0), UNKNOWN);
        due("unknown", x.canBe(-1, 0, 0), UNKNOWN);
        due("unknown", x.canBe(0, 4, 0), UNKNOWN);
        due("unknown", x.canBe(0, 0, 1), UNKNOWN);
        due("unknown", x.canBe(0, -1, 0), UNKNOWN);
        due("unknown", x.canBe(0, 0, -1), UNKNOWN);
        // low water every sixth hour and a deep cell at each step: 6 hours a step
        x = Check.of("land 9 1;row 0 1,1,1,1,1,1,1,1,1;tide 5,5,5,5,5,4;man 0 0 0;");
        due("first step at hour 5", x.canBe(0, 1, 0), 5);
        due("35 hours", x.canBe(0, 6, 0), 35);
        due("41 hours are too many", x.canBe(0, 7, 0), NONE);
        x.hour(1);
        due("from now 40", x.canBe(0, 7, 0), 40);
        due("from now 46", x.canBe(0, 8, 0), NONE);
        due("rows do not run into one another", Check.of("land 2 2;row 0 0,9;row 1 0,0;man 0 0 0;").canBe(0, 1, 1), 2);
        due("rows do not run into one another", Check.of("land 2 2;row 0 9,0;row 1 0,9;man 1 0 0;").canBe(0, 0, 1), NONE);
        due("rows do not run into one another", Check.of("land 2 2;row 0 9,0;row 1 0,9;man 0 1 0;").canBe(0, 1, 0), NONE);
    }

    private void canHear() {
        StiltHeralds x = Check.of("land 5 1;row 0 0,0,0,2,0;man 0 0 0;man 4 0 2;man 2 0 0;news 4 0;news 0 0;");
        due("he knows it", x.canHear(1, 0), 0);
        due("he knows it", x.canHear(0, 1), 0);
        due("by the other at 2", x.canHear(2, 0), 2);
        due("he comes to meet him", x.canHear(0, 0), 2);
        due("by him who is there first", x.canHear(2, 1), 1);
        due("then the next", x.canHear(1, 1), 2);
        x.saw(1, 1);
        due("never", x.canHear(0, 0), NONE);
        due("unknown", x.canHear(3, 0), UNKNOWN);
        due("unknown", x.canHear(-1, 0), UNKNOWN);
        due("unknown", x.canHear(0, 2), UNKNOWN);
        due("unknown", x.canHear(0, -1), UNKNOWN);
        x = Check.of("land 9 1;row 0 1,1,1,1,1,1,1,1,1;tide 5,5,5,5,5,4;man 0 0 0;news 7 0;");
        due("41 hours", x.canHear(0, 0), NONE);
        x.hour(1);
        due("40 hours", x.canHear(0, 0), 40);
    }

    private void first() {
        StiltHeralds x = Check.of("land 5 1;row 0 0,0,0,2,0;man 0 0 0;man 2 0 2;news 0 0;castle 4 0;");
        due("hours", x.first(0, 0), 4);
        due("by whom", x.first(0, 1), 1);
        x.saw(0, 2);
        due("of several the least", x.first(0, 1), 0);
        due("no sooner", x.first(0, 0), 4);
        x.saw(0, 0);
        x.saw(1, 1);
        due("never", x.first(0, 0), NONE);
        due("by nobody", x.first(0, 1), NONE);
        due("unknown", x.first(1, 0), UNKNOWN);
        due("unknown", x.first(-1, 2), UNKNOWN);
        due("outside", x.first(0, 2), OUTSIDE);
        due("outside", x.first(0, -1), OUTSIDE);
        x = Check.of("land 1 1;news 0 0;");
        due("no men", x.first(0, 0), NONE);
        due("no men", x.first(0, 1), NONE);
        x = Check.of("land 2 1;man 1 0 0;man 0 0 0;man 0 0 0;news 0 0;");
        due("now", x.first(0, 0), 0);
        due("now by", x.first(0, 1), 1);
        x = Check.of("land 9 1;row 0 1,1,1,1,1,1,1,1,1;tide 5,5,5,5,5,4;man 0 0 0;news 0 0;castle 7 0;");
        due("41 hours", x.first(0, 0), NONE);
        x.hour(1);
        due("40 hours", x.first(0, 0), 40);
    }

    private void sawed() {
        StiltHeralds x = Check.of("land 5 1;row 0 0,0,0,2,0;man 0 0 3;man 2 0 2;news 0 0;castle 4 0;");
        due("both need it", x.sawed(0, 4, NONE), 3);
        due("the first", x.sawed(0, 4, 0), 2);
        due("the second", x.sawed(0, 4, 1), 1);
        due("it is no sooner", x.sawed(0, 3, NONE), 0);
        due("none of the first", x.sawed(0, 3, 0), 0);
        due("at 20", x.sawed(0, 20, NONE), 3);
        due("nothing was sawed", x.man(0, 2), 3);
        due("unknown", x.sawed(1, 0, 0), UNKNOWN);
        due("unknown", x.sawed(0, 0, 2), UNKNOWN);
        due("unknown", x.sawed(0, 21, -2), UNKNOWN);
        due("outside", x.sawed(0, 21, NONE), OUTSIDE);
        due("outside", x.sawed(0, -1, 0), OUTSIDE);
        x = Check.of("land 3 1;man 0 0 6;news 0 0;castle 2 0;");
        due("no cut helps", x.sawed(0, 2, NONE), NONE);
        due("no cut helps", x.sawed(0, 2, 0), NONE);
        due("not within 1", x.sawed(0, 1, NONE), 0);
        due("now", Check.of("land 1 1;man 0 0 6;news 0 0;").sawed(0, 0, NONE), NONE);
        due("no men", Check.of("land 1 1;news 0 0;").sawed(0, 20, NONE), 0);
        // two ways of the same sum: either of them alone has to stop the relay
        x = Check.of("land 5 1;row 0 0,2,0,2,0;man 0 0 2;man 4 0 2;news 0 0;castle 4 0;");
        x.saw(1, 2);
        due("the relay", x.sawed(0, 3, NONE), 0);
        due("both can", x.sawed(0, 4, NONE), 1);
        due("man by man the fewer", x.sawed(0, 4, 0), 1);
        due("man by man the fewer", x.sawed(0, 4, 1), 0);
        x = Check.of("land 5 1;row 0 0,0,2,0,0;man 0 0 1;man 4 0 2;man 4 0 2;news 0 0;castle 4 0;");
        due("two who fetch it", x.sawed(0, 20, NONE), 2);
        due("the first need not", x.sawed(0, 20, 0), 0);
        due("the second must", x.sawed(0, 20, 1), 1);
        due("the third must", x.sawed(0, 20, 2), 1);
        x = Check.of("land 5 1;row 0 0,2,0,2,0;man 1 0 1;man 2 0 2;news 1 0;castle 4 0;");
        due("either, not both", x.sawed(0, 20, NONE), 1);
        due("the first carries on", x.sawed(0, 20, 0), 0);
        due("the second is sawed", x.sawed(0, 20, 1), 1);
    }

    private void bestStake() {
        StiltHeralds x = Check.of("land 3 2;row 0 0,9,0;row 1 0,0,9;man 0 0 0;news 0 0;castle 2 0;");
        due("the cell", x.bestStake(0, 0), 10);
        due("how soon", x.bestStake(0, 1), 2);
        due("no stake was set", x.depth(1, 0, 0), 9);
        due("unknown", x.bestStake(1, 0), UNKNOWN);
        due("unknown", x.bestStake(-1, 2), UNKNOWN);
        due("outside", x.bestStake(0, 2), OUTSIDE);
        due("outside", x.bestStake(0, -1), OUTSIDE);
        x.stake(1, 0, true);
        due("the first of like ones", x.bestStake(0, 0), 0);
        x = Check.of("land 2 2;row 0 0,9;row 1 9,9;man 0 0 0;news 0 0;castle 1 1;");
        due("never by any", x.bestStake(0, 0), NONE);
        due("never by any", x.bestStake(0, 1), NONE);
        x.stake(1, 1, true);
        due("with one that is", x.bestStake(0, 0), 10);
        due("with one that is", x.bestStake(0, 1), 2);
        x = Check.of("land 2 2;row 0 0,9;row 1 9,0;man 0 0 0;news 0 0;castle 1 1;");
        due("Y by Y", x.bestStake(0, 0), 10);
        due("now", Check.of("land 1 1;man 0 0 0;news 0 0;").bestStake(0, 1), 0);
        due("no men", Check.of("land 1 1;news 0 0;").bestStake(0, 0), NONE);
        x = Check.of("land 3 3;row 1 9,9,9;man 2 0 0;news 2 0;castle 2 2;");
        due("in the middle", x.bestStake(0, 0), 21);
        due("in the middle", x.bestStake(0, 1), 2);
        x = Check.of("land 9 1;row 0 1,1,1,1,1,1,1,1,1;tide 5,5,5,5,5,4;man 0 0 0;news 0 0;castle 8 0;");
        due("41 hours", x.bestStake(0, 0), NONE);
        due("41 hours", x.bestStake(0, 1), NONE);
        x.hour(1);
        due("40 hours", x.bestStake(0, 0), 10);
        due("40 hours", x.bestStake(0, 1), 40);
    }

    private void inch() {
        StiltHeralds x = Check.of("land 3 1;row 0 0,3,0;man 0 0 2;man 2 0 1;news 0 0;castle 2 0;");
        due("from never to 2", x.inch(0, 0), 39);
        due("one inch is not enough", x.inch(0, 1), 0);
        due("stilts as they were", x.man(0, 2), 2);
        x.saw(0, 3);
        due("nothing is sooner", x.inch(0, 0), 0);
        due("unknown", x.inch(1, 0), UNKNOWN);
        due("unknown", x.inch(-1, 0), UNKNOWN);
        due("unknown", x.inch(0, 2), UNKNOWN);
        due("unknown", x.inch(0, -1), UNKNOWN);
        x = Check.of("land 3 1;row 0 0,7,0;man 0 0 6;news 0 0;castle 2 0;");
        due("seven inches", x.inch(0, 0), 39);
        x = Check.of("land 3 1;row 0 0,2,0;tide 5,5,5,4;man 0 0 1;news 0 0;castle 2 0;");
        due("no wait for low water", x.inch(0, 0), 2);
    }

    private void nobody() {
        StiltHeralds x = Check.of("land 3 3;row 0 0,9,0;row 1 9,0,9;row 2 0,9,0;man 1 1 0;");
        due("how many", x.nobody(NONE), 8);
        int[] want = {0, 10, 20, 1, 21, 2, 12, 22, NONE, NONE};
        for (int i = 0; i < want.length; i++) {
            due("nobody(" + i + ")", x.nobody(i), want[i]);
        }
        due("nobody(-2)", x.nobody(-2), NONE);
        due("far", x.nobody(Integer.MAX_VALUE), NONE);
        due("far", x.nobody(Integer.MIN_VALUE), NONE);
        x.saw(0, 6);
        x.stake(1, 0, true);
        due("three less", x.nobody(NONE), 5);
        due("no men", Check.of("land 9 4;").nobody(NONE), 36);
        due("no men", Check.of("land 9 4;").nobody(35), 83);
        x = Check.of("land 9 1;row 0 1,1,1,1,1,1,1,1,1;tide 5,5,5,5,5,4;man 0 0 0;");
        due("not within 40", x.nobody(NONE), 2);
        x.hour(1);
        due("within 40", x.nobody(NONE), 1);
        x = Check.of("land 9 1;row 0 1,1,1,1,1,1,1,1,1;tide 5,4,5,5,5,5;man 0 0 0;");
        due("with the first hour", x.nobody(NONE), 1);
        x.hour(2);
        due("low water at 7 .. 37, and at 43, which is too late", x.nobody(NONE), 2);
        x.hour(1);
        due("at 43, which is the last hour from now", x.nobody(NONE), 1);
    }

    private void alone() {
        StiltHeralds x = Check.of("land 5 1;row 0 0,1,2,3,4;man 0 0 1;man 0 0 3;man 4 0 0;");
        due("he alone", x.alone(1), 2);
        due("not he", x.alone(0), 0);
        due("where he is", x.alone(2), 1);
        due("unknown", x.alone(3), UNKNOWN);
        due("unknown", x.alone(-1), UNKNOWN);
        due("all", Check.of("land 9 4;man 0 0 0;").alone(0), 36);
    }

    private void trackSeeFits() {
        StiltHeralds x = Check.of("land 4 2;row 0 0,2,4,6;row 1 9,9,9,9;tide 5,6;");
        due("no track", x.fits(), NOT);
        due("see without a track", x.see(0, 0, 0), 1);
        due("still none", x.fits(), NOT);
        due("track", x.track(0, 0), 1);
        due("all fit", x.fits(), 127);
        due("where it begins", x.see(0, 0, 0), 1);
        due("all fit", x.fits(), 127);
        due("a step at high water", x.see(1, 0, 1), 2);
        due("3 and more", x.fits(), 120);
        due("a step at low water", x.see(2, 0, 2), 3);
        due("4 and more", x.fits(), 112);
        due("back", x.see(1, 0, 3), 4);
        due("4 and more", x.fits(), 112);
        x.hour(1);
        due("asked at another hour", x.fits(), 96);
        x.stake(2, 0, true);
        due("with a stake it is low water at both its sides", x.fits(), 124);
        due("a jump", x.see(0, 0, 2), 5);
        due("nothing fits", x.fits(), 0);
        due("track again", x.track(1, 0), 5);
        due("elsewhere at 0", x.see(0, 0, 0), 1);
        due("nothing fits", x.fits(), 0);
        due("unknown", x.track(4, 0), UNKNOWN);
        due("unknown", x.track(0, 2), UNKNOWN);
        due("unknown", x.track(-1, 0), UNKNOWN);
        due("unknown", x.track(0, -1), UNKNOWN);
        due("refused changes nothing", x.told(8), 1);
        due("unknown", x.see(4, 0, 41), UNKNOWN);
        due("unknown", x.see(0, 2, 0), UNKNOWN);
        due("outside", x.see(0, 0, 41), OUTSIDE);
        due("outside", x.see(0, 0, -1), OUTSIDE);
        x.track(0, 0);
        for (int k = 1; k <= 20; k++) {
            due("see", x.see(0, 0, 40), k);
        }
        due("full", x.see(0, 0, 0), FULL);
        due("unknown ahead of full", x.see(9, 0, 0), UNKNOWN);
        due("outside ahead of full", x.see(0, 0, 41), OUTSIDE);
        due("20", x.told(8), 20);
        due("all fit at 40", x.fits(), 127);
        due("20 there were", x.track(0, 0), 20);
        x.see(1, 0, 40);
        due("at 40 hours", x.fits(), 124);
    }

    private void book() {
        StiltHeralds x = Check.of("land 2 1;man 0 0 0;man 1 0 0;");
        due("unknown", x.write(2, 0), UNKNOWN);
        due("unknown", x.write(-1, 5), UNKNOWN);
        due("outside", x.write(0, 5), OUTSIDE);
        due("outside", x.write(0, -1), OUTSIDE);
        due("none", x.told(9), 0);
        for (int k = 1; k <= 40; k++) {
            due("write", x.write(k & 1, 0), k);
        }
        due("full", x.write(0, 0), FULL);
        due("outside ahead of full", x.write(0, 5), OUTSIDE);
        due("unknown ahead of full", x.write(9, 0), UNKNOWN);
        due("all may be", x.judge(), NONE);
        due("tear", x.tear(), 40);
        due("tear again", x.tear(), 0);
        due("write", x.write(0, 0), 1);
    }

    private void judge() {
        StiltHeralds x = Check.of("land 4 2;row 0 0,2,0,0;row 1 0,0,0,9;tide 5,4;man 0 0 1;man 3 0 0;");
        due("empty", x.judge(), NONE);
        x.write(0, 2);
        due("east at low water", x.judge(), NONE);
        x.write(1, 4);
        x.write(0, 0);
        x.write(0, 2);
        x.write(1, 4);
        due("his second is at hour 2: too deep", x.judge(), 4);
        x.tear();
        x.write(1, 0);
        x.write(1, 4);
        x.write(1, 4);
        due("too deep for him at low water too", x.judge(), 2);
        x.write(0, 1);
        due("the first in the book", x.judge(), 2);
        x.tear();
        x.write(0, 0);
        x.write(0, 4);
        x.write(1, 1);
        due("the first in the book though another is sooner", x.judge(), 1);
        x.tear();
        x.write(0, 2);
        x.hour(1);
        due("from now it is high water", x.judge(), 0);
        x.stake(1, 0, true);
        due("on a stake", x.judge(), NONE);
        due("nobody moved", x.man(0, 0), 0);
        due("no order was given", x.man(0, 6), 0);
    }

    private void seed() {
        StiltHeralds x = new StiltHeralds();
        due("seed", x.seed(2147483647), 0);
        due("outside", x.seed(-1), OUTSIDE);
        due("outside", x.seed(Integer.MIN_VALUE), OUTSIDE);
        due("seed", x.seed(0), 2147483647);
        due("seed", x.seed(3), 0);
    }

    private void images() {
        StiltHeralds x = Check.of("land 3 1;row 0 0,9,0;man 1 0 4;man 0 0 2;news 0 0;");
        due("keep(-1)", x.keep(-1), UNKNOWN);
        due("keep(2)", x.keep(2), UNKNOWN);
        due("goBack(-1)", x.goBack(-1), UNKNOWN);
        due("goBack(2)", x.goBack(2), UNKNOWN);
        due("goBack(0)", x.goBack(0), NOT);
        due("keep(1)", x.keep(1), 1);
        due("goBack(0)", x.goBack(0), NOT);
        x.seed(11);
        x.order(0, 4);
        x.stake(2, 0, true);
        x.saw(1, 5);
        x.hour(1);
        x.write(0, 0);
        x.track(0, 0);
        x.see(0, 0, 0);
        due("keep(0)", x.keep(0), 1);
        x.feed(1, 0);
        x.seed(12);
        x.order(0, 1);
        x.stake(2, 0, false);
        x.saw(1, 6);
        x.hour(9);
        due("goBack(1)", x.goBack(1), 1);
        due("hour", x.told(6), 0);
        due("where", x.man(0, 0), 1);
        due("known", x.man(0, 3), 0);
        due("stilts", x.man(1, 2), 2);
        due("wet knees", x.man(0, 4), 0);
        due("order", x.man(0, 6), 0);
        due("the book is not in it", x.told(9), 1);
        due("what was seen is not in it", x.told(8), 1);
        due("the text is not in it", x.told(5), 1);
        due("seed", x.seed(99), 0);
        due("goBack(0)", x.goBack(0), 1);
        due("hour", x.told(6), 1);
        due("where", x.man(0, 0), 0);
        due("known", x.man(0, 3), 1);
        due("stilts", x.man(1, 2), 5);
        due("order", x.man(0, 6), 4);
        due("stake", x.stake(2, 0, false), 1);
        due("seed", x.seed(98), 11);
        due("goBack(0) again", x.goBack(0), 1);
        due("the image was not changed", x.stake(2, 0, false), 1);
        x = Check.of("land 2 1;row 0 9,0;man 0 0 4;");
        x.hour(3);
        x.keep(0);
        x.hour(3);
        due("wet knees", x.man(0, 4), 6);
        x.goBack(0);
        due("wet knees", x.man(0, 4), 3);
    }
}
