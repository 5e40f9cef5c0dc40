import java.util.ArrayList;
import java.util.List;

/** Terms, part 1 of the document (THE PROVINCE), and the promises 1 to 7: each boundary case by its sentence. */
public final class ProvinceSentencesTest extends Sentences {
    private static final String ALL =
        "land 2 2;row 0 1,2;row 1 3,4;tide 5,6;man 0 1 3;news 1 1;castle 1 0;";

    public static void main(String[] args) throws ReflectiveOperationException {
        new ProvinceSentencesTest().runAll();
    }

    private static String repeat(String s, int n) {
        return s.repeat(n);
    }

    /** W numbers with a comma between. */
    private static String list(int n, String number) {
        return n == 0 ? "" : number + repeat("," + number, n - 1);
    }

    // ---- terms

    public void numbersFromNought() {
        says("What has a number has it from 0 on, as it comes.");
        StiltHeralds x = of("land 4 1;man 3 0 5;man 1 0 2;news 1 0;news 3 0;");
        due("the first man", x.man(0, 0) * 10 + x.man(0, 2), 35);
        due("the second man", x.man(1, 0) * 10 + x.man(1, 2), 12);
        due("the first news is 0", x.man(1, 3), 1);
        due("the second news is 1", x.man(0, 3), 2);
        x.write(0, 2);
        due("the first entry is 0", x.judge(), 0);
        due("the first of nobody's cells is 0", of("land 4 1;row 0 9,9,0,9;man 2 0 0;").nobody(0), 0);
    }

    public void sets() {
        says("A SET is a whole number, bit k for k.");
        String four = "land 2 2;news 0 0;news 1 0;news 0 1;news 1 1;castle 0 0;";
        for (int k = 0; k < 4; k++) {
            StiltHeralds x = of(four + "man " + k % 2 + " " + k / 2 + " 0;");
            due("news " + k + " alone", x.man(0, 3), 1 << k);
        }
        StiltHeralds x = of("land 1 1;news 0 0;news 0 0;news 0 0;news 0 0;man 0 0 0;");
        due("all four", x.man(0, 3), 15);
        due("all four at the castle", x.told(10), 15);
        due("none", of("land 1 1;man 0 0 0;").man(0, 3), 0);
        for (int deep = 0; deep <= 6; deep++) {
            x = of("land 2 1;row 0 0," + deep + ";");
            x.track(0, 0);
            x.see(1, 0, 1);
            due("lengths from " + deep, x.fits(), 127 >> deep << deep);
        }
    }

    public void none() {
        says("NONE is -1.");
        due("NONE", StiltHeralds.NONE, -1);
        due("no fault", new StiltHeralds().fault(), -1);
    }

    public void refusalsAreFarBelow() {
        says("They are far below all that is counted: -1000000001 and on.");
        due("UNKNOWN", StiltHeralds.UNKNOWN, -1000000001);
        due("OUTSIDE", StiltHeralds.OUTSIDE, -1000000002);
        due("NOT", StiltHeralds.NOT, -1000000003);
        due("FULL", StiltHeralds.FULL, -1000000004);
    }

    // ---- the text and its parts

    public void textOf500() {
        says("THE PROVINCE is told in a text (500 bytes at most)");
        String text = repeat(" ", 500 - ALL.length()) + ALL;
        StiltHeralds x = new StiltHeralds();
        Check.feed(x, text);
        due("500 bytes", x.told(5), 500);
        due("one more", x.feed(1, ';'), FULL);
        due("read to its last byte", x.province(), 4);
        due("the last statement counts", x.told(7), 10);
        Check.feed(x, text.substring(0, 499) + ",");
        due("its last byte has a fault", x.province(), -11);
        due("its last byte", x.fault(), 499);
        Check.feed(x, text.substring(1) + "x");
        due("its last byte is a word", x.province(), -11);
        due("its last byte is a word", x.fault(), 499);
        Check.feed(x, text.substring(1, 500) + " ");
        due("its last byte is a blank", x.province(), 4);
        Check.feed(x, " " + text.substring(0, 499));
        due("its last byte is missing", x.province(), -11);
        due("the end of 500 bytes", x.fault(), 500);
    }

    public void landFirst() {
        says("first 'land' W H ';'");
        good("land 2 2;", 4);
        bad("land;", 1, 4);
        bad("land 2;", 1, 6);
        bad("land 2 2", 1, 8);
        bad("land 2 2,", 1, 8);
        bad("land 2 2 2;", 1, 9);
        bad("2 2;", 1, 0);
        bad(";land 2 2;", 1, 0);
    }

    public void cellsOfALand() {
        says("CELLS X 0 .. W less 1, Y 0 .. H less 1");
        for (int w = 1; w <= 9; w++) {
            int h = Math.min(9, 36 / w);
            StiltHeralds x = of("land " + w + " " + h + ";man " + (w - 1) + " " + (h - 1) + " 0;");
            bounds("X with W " + w, 0, w - 1, UNKNOWN, v -> x.depth(v, 0, 0));
            bounds("Y with H " + h, 0, h - 1, UNKNOWN, v -> x.depth(0, v, 0));
            due("the last X", x.man(0, 0), w - 1);
            due("the last Y", x.man(0, 1), h - 1);
            String land = "land " + w + " " + h + ";";
            bad(land + "man " + w + " 0 0;", 2, 13);
            bad(land + "man 0 " + h + " 0;", 2, 15);
            bad(land + "news " + w + " 0;", 2, 14);
            bad(land + "news 0 " + h + ";", 2, 16);
            bad(land + "castle " + w + " 0;", 2, 16);
            bad(land + "castle 0 " + h + ";", 2, 18);
        }
    }

    public void sides() {
        says("W, H 1 .. 9");
        for (int side = 1; side <= 9; side++) {
            good("land " + side + " 1;", side);
            good("land 1 " + side + ";", side);
        }
        bad("land 0 1;", 2, 5);
        bad("land 10 1;", 2, 5);
        bad("land 1 0;", 2, 7);
        bad("land 1 10;", 2, 7);
        bad("land 11 1;", 2, 5);
        bad("land 1 11;", 2, 7);
        bad("land 999 1;", 2, 5);
        bad("land 1 999;", 2, 7);
        bad("land 0 0;", 2, 5);
        bad("land -1 1;", 1, 5);
        bad("land 1 -1;", 1, 7);
    }

    public void cellsAtMost() {
        says("36 CELLS at most");
        for (int w = 1; w <= 9; w++) {
            for (int h = 1; h <= 9; h++) {
                String land = "land " + w + " " + h + ";";
                if (w * h <= 36) {
                    good(land, w * h);
                } else {
                    bad(land, 2, 7);
                }
            }
        }
    }

    public void rowAsItStands() {
        says("'row' Y D {',' D} ';' (depths of the CELLS of a row");
        good("land 1 3;row 2 7;", 3);
        due("Y first, then the depth", of("land 1 3;row 2 7;").depth(0, 2, 0), 7);
        StiltHeralds x = of("land 4 2;row 1 6,7,8,9;row 0 2,3,4,5;");
        for (int i = 0; i < 8; i++) {
            due("X rising, each in its row", x.depth(i % 4, i / 4, 0), 2 + i);
        }
        bad("land 2 2;row;", 1, 12);
        bad("land 2 2;row ,", 1, 13);
        bad("land 2 2;row 0,", 1, 14);
        bad("land 2 2;row 0,1,1;", 1, 14);
        bad("land 2 2;row 0 1;1;", 1, 16);
        bad("land 2 2;row 0 1,1", 1, 18);
        bad("land 2 2;row 0 1,1 row 1 1,1;", 1, 19);
    }

    public void tideAsItStands() {
        says("'tide' T {',' T} ';'");
        StiltHeralds x = of("land 1 1;row 0 5;tide 1,9,3;");
        int[] deep = {1, 9, 3, 1, 9, 3};
        for (int n = 0; n < deep.length; n++) {
            due("the hours in their order", x.depth(0, 0, n), deep[n]);
        }
        bad("land 1 1;tide 5", 1, 15);
        bad("land 1 1;tide 5 man 0 0 0;", 1, 16);
        bad("land 1 1;tide 5,,5;", 1, 16);
        bad("land 1 1;tide 5;5;", 1, 16);
    }

    public void manAsHeStands() {
        says("'man' X Y L ';' (4 MEN at most: L the length of his STILTS, 0 .. 6)");
        StiltHeralds x = of("land 9 4;man 7 2 5;");
        due("X, Y, L", x.man(0, 0) * 100 + x.man(0, 1) * 10 + x.man(0, 2), 725);
        bad("land 9 4;man;", 1, 12);
        bad("land 9 4;man 7;", 1, 14);
        bad("land 9 4;man 7 2;", 1, 16);
        bad("land 9 4;man 7,2,5;", 1, 14);
        bad("land 9 4;man 7 2 5", 1, 18);
        bad("land 9 4;man 7 2 5,", 1, 18);
        bad("land 9 4;man 7 2 5 5;", 1, 19);
    }

    public void depthsOfARow() {
        says("(depths of the CELLS of a row, W of them, 0 .. 9 each; 0 untold; each Y once)");
        for (int w = 1; w <= 9; w++) {
            String row = "land " + w + " 2;row 1 ";
            good(row + list(w, "9") + ";", 2 * w);
            bad(row + list(w + 1, "9") + ";", 1, row.length() + 2 * w - 1);
            if (w > 1) {
                bad(row + list(w - 1, "9") + ";", 1, row.length() + 2 * w - 3);
            }
        }
        bad("land 2 2;row 1;", 1, 14);
        bad("land 2 2;row 1 ;", 1, 15);
    }

    public void depthsFromNoughtToNine() {
        says("0 .. 9 each");
        for (int d = 0; d <= 9; d++) {
            StiltHeralds x = of("land 3 2;row 0 " + d + ",0," + d + ";");
            due("depth " + d + " at the left", x.depth(0, 0, 0), d);
            due("depth 0 in the middle", x.depth(1, 0, 0), 0);
            due("depth " + d + " at the right", x.depth(2, 0, 0), d);
        }
        for (String d : new String[] {"10", "11", "99", "100", "999"}) {
            bad("land 2 1;row 0 " + d + ",0;", 2, 15);
            bad("land 2 1;row 0 0," + d + ";", 2, 17);
        }
        bad("land 2 1;row 0 -1,0;", 1, 15);
        bad("land 2 1;row 0 0,-1;", 1, 17);
    }

    public void depthsUntold() {
        says("0 untold");
        StiltHeralds x = of("land 3 3;row 0 9,9,9;row 2 9,9,9;");
        for (int cx = 0; cx < 3; cx++) {
            due("a row between told ones", x.depth(cx, 1, 0), 0);
            due("a told row", x.depth(cx, 2, 0), 9);
        }
        Check.province(x, "land 3 3;");
        for (int i = 0; i < 9; i++) {
            due("no row is told any more", x.depth(i % 3, i / 3, 0), 0);
        }
    }

    public void eachRowOnce() {
        says("each Y once");
        StringBuilder rows = new StringBuilder("land 1 9;");
        for (int y = 8; y >= 0; y--) {
            rows.append("row ").append(y).append(' ').append(y + 1).append(';');
        }
        good(rows.toString(), 9);
        for (int y = 0; y < 9; y++) {
            due("row " + y, of(rows.toString()).depth(0, y, 0), y + 1);
            bad(rows + "row " + y + " 1;", 4, rows.length() + 4);
            bad("land 1 9;row " + y + " 1;row " + y + " 1;", 4, 21);
        }
        bad(rows + "row 9 1;", 2, rows.length() + 4);
    }

    public void hoursOfTheTide() {
        says("1 to 6 hours that come round");
        for (int n = 1; n <= 6; n++) {
            StringBuilder s = new StringBuilder("land 1 1;row 0 5;tide 9");
            for (int k = 1; k < n; k++) {
                s.append(',').append(9 - k);
            }
            StiltHeralds x = of(s + ";");
            due("hours told", x.told(2), n);
            for (int hour = 0; hour <= 99; hour++) {
                due("tide of " + n + " at " + hour, x.depth(0, 0, hour), 9 - hour % n);
            }
        }
        bad("land 1 1;tide;", 1, 13);
        bad("land 1 1;tide ;", 1, 14);
        bad("land 1 1;tide ,1;", 1, 14);
        bad("land 1 1;tide 1,;", 1, 16);
        bad("land 1 1;tide 1,1,1,1,1,1,1;", 1, 25);
        bad("land 1 1;tide 1,1,1,1,1,1,1,1;", 1, 25);
    }

    public void tideOnDepths() {
        says("depths at an hour are T less 5 more, T 0 .. 9, never below 0");
        for (int t = 0; t <= 9; t++) {
            StiltHeralds x = of("land 5 2;row 0 0,1,2,3,4;row 1 5,6,7,8,9;tide " + t + ";");
            for (int d = 0; d <= 9; d++) {
                due("depth " + d + " at " + t, x.depth(d % 5, d / 5, 0), d + t - 5 < 0 ? 0 : d + t - 5);
            }
        }
        for (String t : new String[] {"10", "11", "99", "100", "999"}) {
            bad("land 1 1;tide " + t + ";", 2, 14);
            bad("land 1 1;tide 5," + t + ";", 2, 16);
            bad("land 1 1;tide 5,5,5,5,5," + t + ";", 2, 24);
        }
        bad("land 1 1;tide -1;", 1, 14);
    }

    public void tideUntold() {
        says("5 untold; once)");
        StiltHeralds x = of("land 1 1;row 0 7;");
        due("one hour", x.told(2), 1);
        due("now", x.depth(0, 0, 0), 7);
        due("99 hours on", x.depth(0, 0, 99), 7);
        Check.province(x, "land 1 1;row 0 7;tide 9,0,9;");
        Check.province(x, "land 1 1;row 0 7;");
        due("untold again", x.told(2), 1);
        for (int n = 0; n <= 6; n++) {
            due("untold again, at " + n, x.depth(0, 0, n), 7);
        }
        bad("land 1 1;tide 5;tide 5;", 3, 16);
    }

    public void tideOnce() {
        says("'land', 'tide', 'castle' again");
        bad("land 1 1;tide 5;tide 5;", 3, 16);
        bad("land 1 1;tide 5;row 0 1;  tide 5;", 3, 26);
        bad("land 1 1;tide 5;tide", 3, 16);
        bad("land 1 1;castle 0 0;castle 0 0;", 3, 20);
        bad("land 1 1;castle 0 0;news 0 0; castle", 3, 30);
        bad("land 1 1;land 1 1;", 3, 9);
        bad("land 1 1;man 0 0 0; land 1 1;", 3, 20);
        bad("land 1 1;tide 5;castle 0 0;land", 3, 27);
        StiltHeralds x = of("land 1 1;tide 5;castle 0 0;");
        due("each once in the next text again", Check.province(x, "land 1 1;tide 5;castle 0 0;"), 1);
    }

    public void menAtMost() {
        says("4 MEN at most");
        for (int n = 0; n <= 4; n++) {
            StiltHeralds x = of("land 2 1;" + repeat("man 1 0 3;", n));
            due("men", x.told(3), n);
            bounds("men of " + n, 0, n - 1, UNKNOWN, v -> x.man(v, 0));
        }
        bad("land 2 1;" + repeat("man 1 0 3;", 5), 3, 49);
        bad("land 2 1;" + repeat("man 1 0 3;", 4) + "news 0 0; man", 3, 59);
        StiltHeralds x = of("land 2 1;" + repeat("man 1 0 3;", 4));
        due("four in the next text again", Check.province(x, "land 2 1;" + repeat("man 0 0 1;", 4)), 2);
        due("four in the next text again", x.told(3), 4);
    }

    public void lengthsOfStilts() {
        says("L the length of his STILTS, 0 .. 6");
        for (int l = 0; l <= 6; l++) {
            due("stilts", of("land 1 1;man 0 0 " + l + ";").man(0, 2), l);
        }
        for (String l : new String[] {"7", "8", "9", "10", "999"}) {
            bad("land 1 1;man 0 0 " + l + ";", 2, 17);
        }
        bad("land 1 1;man 0 0 -1;", 1, 17);
        bad("land 1 1;man 0 0;", 1, 16);
    }

    public void newsAtMost() {
        says("'news' X Y ';' (4 at most)");
        for (int n = 0; n <= 4; n++) {
            StiltHeralds x = of("land 2 1;man 0 0 0;" + repeat("news 1 0;", n));
            due("news", x.told(4), n);
            bounds("news of " + n, 0, n - 1, UNKNOWN, v -> x.canHear(0, v));
        }
        bad("land 2 1;" + repeat("news 1 0;", 5), 3, 45);
        bad("land 2 1;" + repeat("news 1 0;", 4) + "man 0 0 0; news", 3, 56);
        StiltHeralds x = of("land 2 1;" + repeat("news 1 0;", 4));
        due("four in the next text again", Check.province(x, "land 2 1;" + repeat("news 1 0;", 4)), 2);
        due("four in the next text again", x.told(4), 4);
    }

    public void castleUntold() {
        says("'castle' X Y ';' (0 0 untold; once)");
        StiltHeralds x = of("land 9 4;");
        due("untold", x.told(7), 0);
        Check.province(x, "land 9 4;castle 8 3;");
        due("told", x.told(7), 83);
        Check.province(x, "land 9 4;man 0 0 0;news 0 0;");
        due("untold again", x.told(7), 0);
        due("0 0 is the castle", x.told(10), 1);
        due("told as 0 0", of("land 9 4;castle 0 0;").told(7), 0);
        bad("land 9 4;castle 0 0;castle 0 0;", 3, 20);
        for (int y = 0; y < 4; y++) {
            for (int cx = 0; cx < 9; cx++) {
                due("castle", of("land 9 4;castle " + cx + " " + y + ";").told(7), 10 * cx + y);
            }
        }
    }

    public void anyOrder() {
        says("then, as they come:");
        List<String> parts = List.of("row 0 1,2;", "tide 5,7;", "man 1 0 6;", "news 1 0;", "castle 1 0;");
        List<String> orders = new ArrayList<>();
        permute(new ArrayList<>(parts), 0, orders);
        for (String order : orders) {
            StiltHeralds x = of("land 2 1;" + order);
            due("order " + order, x.told(2) * 10000 + x.told(3) * 1000 + x.told(4) * 100 + x.told(7), 21110);
            due("order " + order, x.depth(1, 0, 1), 4);
            due("order " + order, x.told(10), 1);
        }
    }

    private static void permute(List<String> parts, int from, List<String> found) {
        if (from == parts.size()) {
            found.add(String.join("", parts));
            return;
        }
        for (int i = from; i < parts.size(); i++) {
            List<String> next = new ArrayList<>(parts);
            next.add(from, next.remove(i));
            permute(next, from + 1, found);
        }
    }

    // ---- signs

    public void figures() {
        says("NUMBERS have one to three figures");
        String[] before = {"land ", "land 2 ", "land 2 2;row ", "land 2 2;row 0 ", "land 2 2;row 0 1,", "land 2 2;tide ",
            "land 2 2;tide 1,", "land 2 2;man ", "land 2 2;man 0 ", "land 2 2;man 0 0 ", "land 2 2;news ", "land 2 2;news 0 ",
            "land 2 2;castle ", "land 2 2;castle 0 "};
        String[] behind = {" 2;", ";", " 1,1;", ",1;", ";", ";", ";", " 0 0;", " 0;", ";", " 0;", ";", " 0;", ";"};
        for (int i = 0; i < before.length; i++) {
            int cells = i == 0 ? 2 : i == 1 ? 2 : 4;
            good(before[i] + "1" + behind[i], cells);
            good(before[i] + "01" + behind[i], cells);
            good(before[i] + "001" + behind[i], cells);
            bad(before[i] + "0001" + behind[i], 2, before[i].length());
            bad(before[i] + "00001" + behind[i], 2, before[i].length());
            bad(before[i] + "1000" + behind[i], 2, before[i].length());
            bad(before[i] + repeat("0", 99) + "1" + behind[i], 2, before[i].length());
            bad(before[i] + "4294967297" + behind[i], 2, before[i].length());
            bad(before[i] + "18446744073709551617" + behind[i], 2, before[i].length());
            bad(before[i] + "101" + behind[i], 2, before[i].length());
            bad(before[i] + "257" + behind[i], 2, before[i].length());
            if (!behind[i].startsWith(" ")) {
                bad(before[i] + behind[i], 1, before[i].length());
            }
            bad(before[i] + "x" + behind[i], 1, before[i].length());
        }
    }

    public void letters() {
        says("words are letters a .. z side by side");
        for (String word : new String[] {"row", "tide", "man", "news", "castle", "land"}) {
            String rest = word.equals("tide") ? " 1;" : word.equals("man") ? " 0 0 0;" : " 0 0;";
            for (char sign : new char[] {'a', 'z', 'm'}) {
                bad("land 1 1;" + sign + word + rest, 1, 9);
                bad("land 1 1;" + word + sign + rest, 1, 9);
            }
            for (char sign : new char[] {'`', '{', '@', '[', 'A', 'Z', '_', '-', (char) 225, (char) 255}) {
                bad("land 1 1;" + sign + word + rest, 1, 9);
                if (!word.equals("land")) {
                    bad("land 1 1;" + word + sign + rest, 1, 9 + word.length());
                }
            }
            bad("land 1 1;" + word.toUpperCase() + rest, 1, 9);
            bad("land 1 1;" + word.substring(0, word.length() - 1) + rest, 1, 9);
            bad("land 1 1;" + word.substring(1) + rest, 1, 9);
        }
    }

    public void blanksAnywhere() {
        says("blanks (32) may stand anywhere but within words and NUMBERS");
        String[] tokens = {"land", " ", "2", " ", "2", ";", "row", " ", "0", " ", "1", ",", "2", ";", "tide", " ", "5", ",", "6",
            ";", "man", " ", "0", " ", "1", " ", "3", ";", "news", " ", "1", " ", "1", ";", "castle", " ", "1", " ", "0", ";"};
        for (int at = 0; at <= tokens.length; at++) {
            StringBuilder s = new StringBuilder();
            for (int i = 0; i <= tokens.length; i++) {
                s.append(i == at ? "   " : "").append(i < tokens.length ? tokens[i] : "");
            }
            good(s.toString(), 4);
        }
        good(String.join(" ", tokens), 4);
        good("  " + String.join("  ", tokens) + "  ", 4);
        for (String word : new String[] {"row", "tide", "man", "news", "castle"}) {
            for (int cut = 1; cut < word.length(); cut++) {
                bad("land 1 1;" + word.substring(0, cut) + " " + word.substring(cut) + " 0 0;", 1, 9);
            }
        }
        bad("l and 1 1;", 1, 0);
        bad("la nd 1 1;", 1, 0);
        bad("lan d 1 1;", 1, 0);
        bad("land 0 02 2;", 2, 5);
        bad("land 2 0 02;", 2, 7);
        bad("land 2 2;row 0 0 01,1;", 1, 17);
        bad("land 2 2;tide 0 5;", 1, 16);
        bad("land 2 2;man 0 1 0 3;", 1, 19);
    }

    public void onlyThe32IsABlank() {
        says("blanks (32)");
        for (int sign = 0; sign < 256; sign++) {
            if (sign == 32) {
                good("land 1 1;" + (char) sign, 1);
            } else {
                bad("land 1 1;" + (char) sign, 1, 9);
                bad((char) sign + " land 1 1;", 1, 0);
            }
            boolean figure = sign >= '0' && sign <= '9';
            if (sign != 32 && !figure) {
                bad("land" + (char) sign + "1 1;", 1, sign >= 'a' && sign <= 'z' ? 0 : 4);
                bad("land 1" + (char) sign + "1;", 1, 6);
            }
            if (sign != 32 && sign != ';' && !figure) {
                bad("land 1 1" + (char) sign, 1, 8);
            }
        }
    }

    public void sideBySide() {
        says("two words, two NUMBERS side by side need one");
        good("land2 2;row0 1,2;tide5,6;man0 1 3;news1 1;castle1 0;", 4);
        bad("landland 1 1;", 1, 0);
        bad("land 1 1;mannews 0 0;", 1, 9);
        bad("land 1 1;man news 0 0;", 1, 13);
        bad("land 11;", 2, 5);
        bad("land 22;", 2, 5);
        bad("land 2 2;man00 0;", 1, 16);
        bad("land 2 2;man000;", 1, 15);
        bad("land 2 2;news00;", 1, 15);
        bad("land 2 2;castle00;", 1, 17);
        bad("land 2 2;row 01,1;", 1, 15);
    }

    // ---- faults

    public void theFirstByte() {
        says("FAULTS, at the first byte that has one (the end at the text's length), of these the least:");
        bad("land 2 2;row 0 10,99,1;row 0 1;pond;", 2, 15);
        bad("land 2 2;pond;land 99 99;", 1, 9);
        bad("land 2 2;land 99 99;", 3, 9);
        bad("land 2 2;row 0 1,1;row 0 99,99;", 4, 23);
        bad("land 10 10;", 2, 5);
        bad("land 9 99999 pond", 2, 7);
        bad("land 2 2;man 9 9 9;", 2, 13);
        bad("land 2 2;man 0 9 9;", 2, 15);
        bad("land 2 2;man 0 0 9 9;", 2, 17);
    }

    /** A text cut off anywhere: a good one behind ';', else at the word that is not whole, else at the end. */
    public void theEndAtTheLength() {
        says("the end at the text's length");
        List<String> words = List.of("land", "row", "tide", "man", "news", "castle");
        for (int n = 1; n < ALL.length(); n++) {
            String cut = ALL.substring(0, n);
            int letters = n;
            while (letters > 0 && Character.isLowerCase(cut.charAt(letters - 1))) {
                letters--;
            }
            boolean half = letters < n && !words.contains(cut.substring(letters));
            for (String blanks : new String[] {"", " ", "    "}) {
                if (cut.endsWith(";")) {
                    good(cut + blanks, 4);
                } else {
                    bad(cut + blanks, 1, half ? letters : n + blanks.length());
                }
            }
        }
    }

    public void theLeastOfSeveral() {
        says("of these the least");
        bad("0000", 1, 0);
        bad("land 1 1; 5555", 1, 10);
        bad("land 1 1 1111;", 1, 9);
        bad("land land 1 1;", 1, 5);
        bad("land 1 1;tide land;", 1, 14);
        bad("land 1 1;tide 5;row 0 tide;", 1, 22);
        bad("land 1 1;castle castle;", 1, 16);
        bad("land 1 1;" + repeat("man 0 0 0;", 4) + "row 0 man;", 1, 55);
        bad("land 1 1;" + repeat("news 0 0;", 4) + "row 0 news;", 1, 51);
        bad("land 2 2;row 1 1,1;row 0001 1,1;", 2, 23);
        bad("land 2 2;row 1 1,1;row 001 1,1;", 4, 23);
        bad("land 9 10;", 2, 7);
    }

    public void whatCannotStand() {
        says("1 it cannot stand there (a word that cannot, another one first than 'land': at its first letter; "
            + "a depth, a T too few or too many: where ',' or ';' would stand)");
        for (String word : new String[] {"row 0 1;", "tide 5;", "man 0 0 0;", "news 0 0;", "castle 0 0;", "pond;"}) {
            bad(word + "land 1 1;", 1, 0);
            bad("   " + word, 1, 3);
        }
        bad("land 1 1;  pond 1 1;", 1, 11);
        bad("land 1 1;row row 0;", 1, 13);
        bad("land 2 2;row 0 1;", 1, 16);
        bad("land 2 2;row 0 1 ;", 1, 17);
        bad("land 2 2;row 0 1,1,1;", 1, 18);
        bad("land 2 2;row 0 1,1 , 1;", 1, 19);
        bad("land 2 2;row 0 1,1,", 1, 18);
        bad("land 2 2;row 0 1 1;", 1, 17);
        bad("land 2 2;row 0 1,1 1;", 1, 19);
        bad("land 2 2;tide 1 1;", 1, 16);
        bad("land 2 2;tide 1,1,1,1,1,1 , 1;", 1, 26);
        bad("land 2 2;tide 1,1,1,1,1,1 1;", 1, 26);
        bad("land 2 2;;", 1, 9);
        bad("land 2 2;,", 1, 9);
    }

    public void numbersOutOfBounds() {
        says("2 a NUMBER of four figures or more, or out of its bounds; more than 36 CELLS (at the H).");
        bad("land 6 7;", 2, 7);
        bad("land   9    5  ;", 2, 12);
        bad("land 5 8;", 2, 7);
        bad("land 8 5;", 2, 7);
        bad("land 2 2;row 2 1,1;", 2, 13);
        bad("land 2 2;row   0   1 ,  10;", 2, 24);
    }

    public void onceTooOften() {
        says("3 'land', 'tide', 'castle' again, a fifth 'man', 'news' (at its first letter).");
        bad("land 1 1;   land;", 3, 12);
        bad("land 1 1;" + repeat("man 0 0 0;", 4) + "  man 9 9 9;", 3, 51);
        bad("land 1 1;" + repeat("news 0 0;", 4) + "  news 9 9;", 3, 47);
        good("land 1 1;" + repeat("man 0 0 0;", 4) + repeat("news 0 0;", 4), 1);
    }

    public void rowAgain() {
        says("4 a Y again (at it).");
        bad("land 2 2;row 0 1,1;row    0 1,1;", 4, 26);
        bad("land 2 2;row 0 1,1;row 1 1,1;row 1", 4, 33);
        bad("land 2 2;row 0 1,1;row 00 1,1;", 4, 23);
        StiltHeralds x = of("land 2 2;row 0 1,1;");
        due("each Y once in the next text again", Check.province(x, "land 2 2;row 0 2,2;"), 4);
        due("a fault behind a row", Check.province(x, "land 2 2;row 1 2,2;pond"), -11);
        due("no Y stays from it", Check.province(x, "land 2 2;row 1 2,2;"), 4);
    }

    public void emptyText() {
        says("An empty text: no CELLS.");
        for (String text : new String[] {"", " ", repeat(" ", 500)}) {
            StiltHeralds x = of(ALL);
            due("empty", Check.province(x, text), 0);
            due("empty: no fault", x.fault(), NONE);
            int[] want = {0, 0, 1, 0, 0, 0, 0, 0, 0, 0, 0};
            for (int what = 0; what < want.length; what++) {
                due("empty: told(" + what + ")", x.told(what), want[what]);
            }
            due("empty: no cell", x.depth(0, 0, 0), UNKNOWN);
            due("empty: no man", x.man(0, 0), UNKNOWN);
            due("empty: no news", x.first(0, 0), UNKNOWN);
            due("empty: no hours", x.hour(1), NOT);
            due("empty: nobody's cells", x.nobody(NONE), 0);
            due("empty: a new one", Check.province(x, ALL), 4);
        }
    }

    // ---- promises 1 to 7

    public void newObject() {
        says("`StiltHeralds()`: No CELLS.");
        StiltHeralds x = new StiltHeralds();
        int[] want = {0, 0, 1, 0, 0, 0, 0, 0, 0, 0, 0};
        for (int what = 0; what < want.length; what++) {
            due("told(" + what + ")", x.told(what), want[what]);
        }
        due("no fault", x.fault(), NONE);
        due("nobody", x.nobody(NONE), 0);
        due("a cell", x.depth(0, 0, 0), UNKNOWN);
        due("an hour", x.hour(1), NOT);
        due("another object is not changed", of(ALL).told(0) + x.told(0), 2);
    }

    public void feedBytes() {
        says("Up to eight bytes (n 1 .. 8) of a long, the highest of these first, come behind THE TEXT: how many it has.");
        bounds("feed", 1, 8, OUTSIDE, v -> new StiltHeralds().feed(v, 0));
        for (int n = 1; n <= 8; n++) {
            String text = ALL;
            StiltHeralds x = new StiltHeralds();
            for (int at = 0; at < text.length(); at += n) {
                int now = Math.min(n, text.length() - at);
                long above = now < 8 ? 0x8f8e8d8c8b8a8988L << (8 * now) : 0;
                due("feed " + now, x.feed(now, Check.pack(text, at, now) | above), at + now);
            }
            due("fed by " + n, x.province(), 4);
            due("fed by " + n, x.told(7), 10);
        }
        StiltHeralds x = new StiltHeralds();
        due("all bits", x.feed(8, -1L), 8);
        due("255 is no blank", x.province(), -11);
        due("feed behind a fault", x.feed(1, ' '), 1);
    }

    public void feedFull() {
        says("OUTSIDE, FULL (500).");
        for (int n = 1; n <= 8; n++) {
            StiltHeralds x = new StiltHeralds();
            Check.feed(x, repeat(" ", 500 - n));
            due("up to 500", x.feed(n, 0x2020202020202020L), 500);
            due("full", x.feed(1, 32), FULL);
            x = new StiltHeralds();
            Check.feed(x, repeat(" ", 501 - n));
            due("up to 501", x.feed(n, 0x2020202020202020L), FULL);
            due("nothing came", x.told(5), 501 - n);
            due("n is looked at first", x.feed(9, 0), OUTSIDE);
            due("n is looked at first", x.feed(0, 0), OUTSIDE);
            if (n > 1) {
                due("one less fits", x.feed(n - 1, 0x2020202020202020L), 500);
            }
            due("500 blanks", x.province(), 0);
            due("empty then", x.feed(8, 0x2020202020202020L), 8);
        }
    }

    public void provinceAnswers() {
        says("how many CELLS; -10 less the number of its FAULT (all is as it was).");
        StiltHeralds x = new StiltHeralds();
        due("fault 1", Check.province(x, "pond"), -11);
        due("fault 2", Check.province(x, "land 10 1;"), -12);
        due("fault 3", Check.province(x, "land 1 1;land"), -13);
        due("fault 4", Check.province(x, "land 1 1;row 0 0;row 0"), -14);
        due("still none", x.told(0), 0);
        due("one cell", Check.province(x, "land 1 1;"), 1);
        due("36 cells", Check.province(x, "land 4 9;"), 36);
        due("no cells", Check.province(x, ""), 0);
    }

    public void textIsEmptyThen() {
        says("THE TEXT (it is empty then) becomes THE PROVINCE");
        StiltHeralds x = new StiltHeralds();
        Check.feed(x, ALL);
        x.province();
        due("empty", x.told(5), 0);
        Check.feed(x, "pond");
        x.province();
        due("empty behind a fault too", x.told(5), 0);
        due("an empty text is read then", x.province(), 0);
        due("no cells then", x.told(0), 0);
    }

    public void provinceBegins() {
        says("(HOUR 0, no orders, STAKES, STEPS SEEN, no BOOK; IMAGES are gone; THE SEED stays)");
        String text = "land 3 1;row 0 3,0,0;man 0 0 1;man 2 0 5;news 2 0;";
        StiltHeralds x = of(text);
        x.seed(2147483647);
        x.order(0, 2);
        x.order(1, 4);
        x.stake(1, 0, true);
        x.hour(2);
        x.saw(1, 2);
        x.track(0, 0);
        x.see(1, 0, 0);
        x.write(0, 4);
        x.keep(0);
        x.keep(1);
        due("again", Check.province(x, text), 3);
        due("hour 0", x.told(6), 0);
        due("none seen", x.told(8), 0);
        due("no track", x.fits(), NOT);
        due("no book", x.told(9), 0);
        due("nothing is wrong in it", x.judge(), NONE);
        due("image 0 is gone", x.goBack(0), NOT);
        due("image 1 is gone", x.goBack(1), NOT);
        due("no stake", x.stake(1, 0, false), 0);
        int[][] want = {{0, 0, 1, 0, 0, 1, 0}, {2, 0, 5, 1, 0, 0, 0}};
        for (int m = 0; m < 2; m++) {
            for (int what = 0; what <= 6; what++) {
                due("man(" + m + ", " + what + ")", x.man(m, what), want[m][what]);
            }
        }
        due("the seed stays", x.seed(0), 2147483647);
    }

    public void menBeginAnew() {
        says("HOUR 0, no orders");
        String text = "land 2 1;row 0 3,0;man 0 0 1;man 1 0 1;news 1 0;";
        StiltHeralds x = of(text);
        x.hour(9);
        due("nine hours of wet knees", x.man(0, 4), 9);
        due("he heard", x.man(1, 3), 1);
        Check.province(x, "land 2 1;row 0 3,0;man 0 0 1;man 1 0 1;news 0 0;");
        due("no wet knees", x.man(0, 4), 0);
        due("what he heard is forgotten", x.man(1, 3), 0);
        x.hour(1);
        due("an hour of wet knees", x.man(0, 4), 1);
    }

    /** A lesser land behind a greater one, and the other way round: nothing of the one is left in the other. */
    public void anotherLand() {
        says("THE TEXT (it is empty then) becomes THE PROVINCE");
        StiltHeralds x = of("land 9 4;row 3 9,9,9,9,9,9,9,9,9;tide 9,9,9,9,9,9;man 8 3 6;man 0 0 6;news 8 3;castle 8 3;");
        Check.province(x, "land 2 2;row 0 9,0;row 1 0,9;man 1 0 0;");
        due("nobody's cells", x.nobody(NONE), 3);
        due("nobody's first cell", x.nobody(0), 0);
        due("nobody's last cell", x.nobody(2), 11);
        due("nobody has more", x.nobody(3), NONE);
        due("rows end where they end now", x.canBe(0, 0, 1), NONE);
        due("one man", x.told(3), 1);
        due("no news", x.told(4), 0);
        Check.province(x, "land 2 2;row 0 9,0;row 1 0,9;man 0 1 0;");
        due("rows end where they end now", x.canBe(0, 1, 0), NONE);
        Check.province(x, "land 1 3;man 0 0 0;");
        due("three in a row", x.canBe(0, 0, 2), 2);
        Check.province(x, "land 9 4;man 0 0 0;");
        due("the greater one again", x.canBe(0, 8, 3), 11);
        due("the greater one again", x.nobody(NONE), 0);
        Check.province(x, "");
        due("none at all", x.nobody(NONE), 0);
    }

    public void faultOfTheLatest() {
        says("The byte of the FAULT of the latest province(); NONE.");
        StiltHeralds x = new StiltHeralds();
        due("ahead of any", x.fault(), NONE);
        Check.province(x, "pond");
        due("at the first byte", x.fault(), 0);
        Check.province(x, "land 1 1;;");
        due("of the latest", x.fault(), 9);
        Check.feed(x, "land ");
        x.feed(9, 0);
        due("till the next", x.fault(), 9);
        Check.province(x, "1 1;");
        due("none", x.fault(), NONE);
        Check.province(x, repeat(" ", 499) + "x");
        due("at the last byte", x.fault(), 499);
        Check.province(x, "");
        due("none of an empty one", x.fault(), NONE);
    }

    public void toldBounds() {
        says("0 W, 1 H, 2 hours of the tide (1, if none is told), 3 MEN, 4 NEWS, 5 bytes of THE TEXT, 6 THE HOUR, "
            + "7 the castle (10 times X and Y; 0 without CELLS), 8 STEPS SEEN, 9 orders of THE BOOK, "
            + "10 what is known at the castle now (a SET of NEWS). OUTSIDE.");
        bounds("told of a new one", 0, 10, OUTSIDE, v -> new StiltHeralds().told(v));
        StiltHeralds x = of(ALL);
        bounds("told", 0, 10, OUTSIDE, v -> x.told(v));
        due("no tide", of("land 1 1;").told(2), 1);
        due("one hour of the tide", of("land 1 1;tide 9;").told(2), 1);
        due("two hours of the tide", x.told(2), 2);
        due("castle", x.told(7), 10);
        Check.province(x, "");
        due("castle without cells", x.told(7), 0);
    }

    public void knownAtTheCastle() {
        says("10 what is known at the castle now (a SET of NEWS)");
        StiltHeralds x = of("land 3 1;man 0 0 0;man 2 0 0;news 0 0;news 2 0;castle 1 0;");
        due("nobody is there", x.told(10), 0);
        x.order(0, 2);
        x.hour(1);
        due("the first came", x.told(10), 1);
        x.order(1, 4);
        x.order(0, 0);
        x.hour(1);
        due("the second came", x.told(10), 3);
        x.order(0, 4);
        x.order(1, 2);
        x.hour(1);
        due("they are gone", x.told(10), 0);
        due("news there that nobody heard", of("land 2 1;man 1 0 0;news 0 0;").told(10), 0);
    }

    public void depthBounds() {
        says("DEPTH of a CELL n hours from now (0 .. 99). UNKNOWN, OUTSIDE.");
        StiltHeralds x = of("land 2 2;row 1 0,5;tide 5,6,7,8,9,4;");
        bounds("n", 0, 99, OUTSIDE, v -> x.depth(1, 1, v));
        due("n 99", x.depth(1, 1, 99), 8);
        x.hour(99);
        due("n 0 from hour 99", x.depth(1, 1, 0), 8);
        due("n 99 from hour 99", x.depth(1, 1, 99), 5);
    }

    public void manBounds() {
        says("Of a MAN: what = 0 X, 1 Y, 2 STILTS, 3 what he knows (a SET of NEWS), 4 hours of WET KNEES, "
            + "5 whether he is WET (1, 0), 6 what is ordered. UNKNOWN, OUTSIDE.");
        StiltHeralds x = of("land 3 3;row 2 0,9,0;man 1 2 6;news 0 0;news 1 2;");
        x.order(0, 3);
        x.hour(2);
        bounds("what", 0, 6, OUTSIDE, v -> x.man(0, v));
        int[] want = {1, 2, 6, 2, 2, 1, 3};
        for (int what = 0; what <= 6; what++) {
            due("man(0, " + what + ")", x.man(0, what), want[what]);
        }
        due("man 1", x.man(1, 0), UNKNOWN);
        due("man -1", x.man(-1, 0), UNKNOWN);
    }

    public void fiveHundredAndTwelveCalls() {
        says("An object is used for at most 512 calls after it has been made");
        StiltHeralds x = new StiltHeralds();
        Check.feed(x, "land 2 1;tide 5,6,7;man 0 0 6;news 0 0;castle 1 0;      ");
        due("call 8", x.province(), 2);
        x.order(0, 2);
        for (int call = 10; call <= 508; call++) {
            due("call " + call, x.hour(99), 99 * (call - 9));
        }
        due("call 509", x.depth(0, 0, 99), (99 * 500) % 3);
        due("call 510", x.told(10), 1);
        due("call 511", x.man(0, 0), 1);
        due("call 512", x.told(6), 99 * 499);
    }
}
