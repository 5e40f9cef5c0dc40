import java.util.ArrayList;
import java.util.Arrays;
import java.util.List;

/**
 * The document's words once more, as plainly and slowly as they can be put: tables of booleans by
 * hour, man and cell, and every choice tried. ModelTest holds the class against it.
 */
final class Model {
    private static final int[] DX = {0, 0, 1, 0, -1};
    private static final int[] DY = {0, -1, 0, 1, 0};

    private static final class Fault extends Exception {
        private static final long serialVersionUID = 1L;
        final int kind;
        final int at;

        Fault(int kind, int at) {
            this.kind = kind;
            this.at = at;
        }
    }

    private static final class Man {
        int x, y, stilts, known, wet, ordered;

        Man copy() {
            Man c = new Man();
            c.x = x;
            c.y = y;
            c.stilts = stilts;
            c.known = known;
            c.wet = wet;
            c.ordered = ordered;
            return c;
        }
    }

    private static final class Image {
        int hour, seed;
        List<Man> men = new ArrayList<>();
        boolean[][] stakes;
    }

    private static final class Told {
        int w, h;
        int[][] depths = new int[9][9];
        List<Integer> tide = new ArrayList<>();
        List<int[]> men = new ArrayList<>();
        List<int[]> news = new ArrayList<>();
        int[] castle = {0, 0};
    }

    private StringBuilder text = new StringBuilder();
    private int faultAt = -1;
    private Told told = new Told();
    private int hour = 0;
    private int seed = 0;
    private List<Man> men = new ArrayList<>();
    private boolean[][] stakes = new boolean[9][9];
    private int[] begin = null;
    private final List<int[]> seen = new ArrayList<>();
    private final List<int[]> book = new ArrayList<>();
    private final Image[] images = new Image[2];

    // ---- the text, cut into tokens first

    private static final class Token {
        char kind; // w word, n number, or the sign itself; e the end
        String s = "";
        int at;
    }

    private static List<Token> cut(String s) {
        List<Token> all = new ArrayList<>();
        int i = 0;
        while (i < s.length()) {
            char c = s.charAt(i);
            if (c == ' ') {
                i++;
                continue;
            }
            Token t = new Token();
            t.at = i;
            int j = i + 1;
            if (c >= 'a' && c <= 'z') {
                t.kind = 'w';
                while (j < s.length() && s.charAt(j) >= 'a' && s.charAt(j) <= 'z') j++;
            } else if (c >= '0' && c <= '9') {
                t.kind = 'n';
                while (j < s.length() && s.charAt(j) >= '0' && s.charAt(j) <= '9') j++;
            } else {
                t.kind = c == ',' || c == ';' ? c : '?';
            }
            t.s = s.substring(i, j);
            all.add(t);
            i = j;
        }
        Token end = new Token();
        end.kind = 'e';
        end.at = s.length();
        all.add(end);
        return all;
    }

    private List<Token> tokens;
    private int next;

    private int number(int least, int most) throws Fault {
        Token t = tokens.get(next);
        if (t.kind != 'n') throw new Fault(1, t.at);
        if (t.s.length() > 3) throw new Fault(2, t.at);
        int v = Integer.parseInt(t.s);
        if (v < least || v > most) throw new Fault(2, t.at);
        next++;
        return v;
    }

    private void sign(char c) throws Fault {
        Token t = tokens.get(next);
        if (t.kind != c) throw new Fault(1, t.at);
        next++;
    }

    private Told read(String s) throws Fault {
        Told p = new Told();
        tokens = cut(s);
        next = 0;
        if (tokens.get(0).kind == 'e') return p;
        if (!tokens.get(0).s.equals("land")) throw new Fault(1, tokens.get(0).at);
        next = 1;
        p.w = number(1, 9);
        int hAt = tokens.get(next).at;
        p.h = number(1, 9);
        if (p.w * p.h > 36) throw new Fault(2, hAt);
        sign(';');
        List<Integer> rows = new ArrayList<>();
        boolean castle = false;
        while (tokens.get(next).kind != 'e') {
            Token word = tokens.get(next++);
            switch (word.s) {
                case "row": {
                    int yAt = tokens.get(next).at;
                    int y = number(0, p.h - 1);
                    if (rows.contains(y)) throw new Fault(4, yAt);
                    rows.add(y);
                    for (int x = 0; x < p.w; x++) {
                        p.depths[y][x] = number(0, 9);
                        sign(x == p.w - 1 ? ';' : ',');
                    }
                    break;
                }
                case "tide":
                    if (!p.tide.isEmpty()) throw new Fault(3, word.at);
                    p.tide.add(number(0, 9));
                    while (tokens.get(next).kind == ',' && p.tide.size() < 6) {
                        next++;
                        p.tide.add(number(0, 9));
                    }
                    sign(';');
                    break;
                case "man":
                    if (p.men.size() == 4) throw new Fault(3, word.at);
                    p.men.add(new int[] {number(0, p.w - 1), number(0, p.h - 1), number(0, 6)});
                    sign(';');
                    break;
                case "news":
                    if (p.news.size() == 4) throw new Fault(3, word.at);
                    p.news.add(new int[] {number(0, p.w - 1), number(0, p.h - 1)});
                    sign(';');
                    break;
                case "castle":
                    if (castle) throw new Fault(3, word.at);
                    castle = true;
                    p.castle = new int[] {number(0, p.w - 1), number(0, p.h - 1)};
                    sign(';');
                    break;
                case "land":
                    throw new Fault(3, word.at);
                default:
                    throw new Fault(1, word.at);
            }
        }
        return p;
    }

    int feed(int n, long bytes) {
        if (n < 1 || n > 8) return Check.OUTSIDE;
        if (text.length() + n > 500) return Check.FULL;
        for (int k = n; k > 0; k--) text.append((char) (bytes >> (8 * (k - 1)) & 255));
        return text.length();
    }

    int province() {
        String s = text.toString();
        text = new StringBuilder();
        Told p;
        try {
            p = read(s);
        } catch (Fault f) {
            faultAt = f.at;
            return -10 - f.kind;
        }
        faultAt = -1;
        told = p;
        hour = 0;
        men = new ArrayList<>();
        for (int[] m : p.men) {
            Man man = new Man();
            man.x = m[0];
            man.y = m[1];
            man.stilts = m[2];
            men.add(man);
        }
        stakes = new boolean[9][9];
        begin = null;
        seen.clear();
        book.clear();
        Arrays.fill(images, null);
        hearAndShare();
        return p.w * p.h;
    }

    int fault() {
        return faultAt;
    }

    int told(int what) {
        int atCastle = 0;
        for (Man m : men) {
            if (m.x == told.castle[0] && m.y == told.castle[1]) atCastle |= m.known;
        }
        int[] all = {told.w, told.h, Math.max(1, told.tide.size()), men.size(), told.news.size(), text.length(), hour,
            10 * told.castle[0] + told.castle[1], seen.size(), book.size(), atCastle};
        return what < 0 || what >= all.length ? Check.OUTSIDE : all[what];
    }

    private boolean isCell(int x, int y) {
        return 0 <= x && x < told.w && 0 <= y && y < told.h;
    }

    private boolean isMan(int m) {
        return 0 <= m && m < men.size();
    }

    private boolean isNews(int k) {
        return 0 <= k && k < told.news.size();
    }

    private int depthAt(int x, int y, int h) {
        if (stakes[y][x]) return 0;
        int t = told.tide.isEmpty() ? 5 : told.tide.get(h % told.tide.size());
        int d = told.depths[y][x] + t - 5;
        return d < 0 ? 0 : d;
    }

    int depth(int x, int y, int n) {
        if (!isCell(x, y)) return Check.UNKNOWN;
        if (n < 0 || n > 99) return Check.OUTSIDE;
        return depthAt(x, y, hour + n);
    }

    int man(int m, int what) {
        if (!isMan(m)) return Check.UNKNOWN;
        Man a = men.get(m);
        int[] all = {a.x, a.y, a.stilts, a.known, a.wet, depthAt(a.x, a.y, hour) > a.stilts ? 1 : 0, a.ordered};
        return what < 0 || what >= all.length ? Check.OUTSIDE : all[what];
    }

    // ---- hours

    int order(int m, int way) {
        if (!isMan(m)) return Check.UNKNOWN;
        if (way < 0 || way > 4) return Check.OUTSIDE;
        int was = men.get(m).ordered;
        men.get(m).ordered = way;
        return was;
    }

    private boolean mayBe(int x, int y, int way, int stilts, int h) {
        if (way == 0) return true;
        return isCell(x + DX[way], y + DY[way]) && depthAt(x + DX[way], y + DY[way], h) <= stilts;
    }

    private void hearAndShare() {
        for (Man m : men) {
            for (int k = 0; k < told.news.size(); k++) {
                if (told.news.get(k)[0] == m.x && told.news.get(k)[1] == m.y) m.known |= 1 << k;
            }
        }
        for (int again = 0; again < 4; again++) {
            for (Man m : men) {
                for (Man o : men) {
                    if (m.x == o.x && m.y == o.y) m.known |= o.known;
                }
            }
        }
    }

    private void anHour() {
        for (Man m : men) {
            if (mayBe(m.x, m.y, m.ordered, m.stilts, hour + 1)) {
                int way = m.ordered;
                m.x += DX[way];
                m.y += DY[way];
            }
        }
        hour++;
        hearAndShare();
        for (Man m : men) {
            if (depthAt(m.x, m.y, hour) > m.stilts) m.wet++;
        }
    }

    int hour(int n) {
        if (n < 1 || n > 99) return Check.OUTSIDE;
        if (told.w == 0) return Check.NOT;
        for (int k = 0; k < n; k++) anHour();
        return hour;
    }

    int drift(int n) {
        if (n < 1 || n > 99) return Check.OUTSIDE;
        if (told.w == 0) return Check.NOT;
        for (int k = 0; k < n; k++) {
            for (Man m : men) {
                seed = (int) ((seed * 1103515245L + 12345L) % (1L << 31));
                m.ordered = seed / 65536 % 5;
            }
            anHour();
        }
        return hour;
    }

    int saw(int m, int l) {
        if (!isMan(m)) return Check.UNKNOWN;
        if (l < 0 || l > 6) return Check.OUTSIDE;
        int was = men.get(m).stilts;
        men.get(m).stilts = l;
        return was;
    }

    int stake(int x, int y, boolean is) {
        if (!isCell(x, y)) return Check.UNKNOWN;
        int was = stakes[y][x] ? 1 : 0;
        stakes[y][x] = is;
        return was;
    }

    // ---- what can be

    /** can[n][y][x]: on a cell n hours from now. */
    private boolean[][][] can(int x0, int y0, int stilts) {
        boolean[][][] can = new boolean[41][9][9];
        can[0][y0][x0] = true;
        for (int n = 1; n <= 40; n++) {
            for (int y = 0; y < told.h; y++) {
                for (int x = 0; x < told.w; x++) {
                    for (int way = 0; way <= 4 && can[n - 1][y][x]; way++) {
                        if (mayBe(x, y, way, stilts, hour + n)) can[n][y + DY[way]][x + DX[way]] = true;
                    }
                }
            }
        }
        return can;
    }

    private boolean[][][] can(int m) {
        return can(men.get(m).x, men.get(m).y, men.get(m).stilts);
    }

    int canBe(int m, int x, int y) {
        if (!isMan(m) || !isCell(x, y)) return Check.UNKNOWN;
        boolean[][][] can = can(m);
        for (int n = 0; n <= 40; n++) {
            if (can[n][y][x]) return n;
        }
        return -1;
    }

    /** with[m][n][y][x]: on a cell with the news n hours from now; the sentence of the document till nothing is new. */
    private boolean[][][][] with(int news, int hours) {
        int count = men.size();
        boolean[][][][] can = new boolean[count][][][];
        boolean[][][][] with = new boolean[count][41][9][9];
        for (int m = 0; m < count; m++) can[m] = can(m);
        for (int n = 0; n <= hours; n++) {
            boolean more = true;
            while (more) {
                more = false;
                for (int m = 0; m < count; m++) {
                    for (int y = 0; y < told.h; y++) {
                        for (int x = 0; x < told.w; x++) {
                            if (!with[m][n][y][x] && comes(with, can, new int[] {m, n, x, y}, news)) {
                                with[m][n][y][x] = true;
                                more = true;
                            }
                        }
                    }
                }
            }
        }
        return with;
    }

    private boolean comes(boolean[][][][] with, boolean[][][][] can, int[] q, int news) {
        int m = q[0];
        int n = q[1];
        int x = q[2];
        int y = q[3];
        Man a = men.get(m);
        if (n == 0 && a.x == x && a.y == y && (a.known >> news & 1) == 1) return true;
        if (can[m][n][y][x]) {
            if (told.news.get(news)[0] == x && told.news.get(news)[1] == y) return true;
            for (int o = 0; o < men.size(); o++) {
                if (o != m && with[o][n][y][x]) return true;
            }
        }
        for (int way = 0; way <= 4 && n > 0; way++) {
            int fx = x - DX[way];
            int fy = y - DY[way];
            if (isCell(fx, fy) && with[m][n - 1][fy][fx] && mayBe(fx, fy, way, a.stilts, hour + n)) return true;
        }
        return false;
    }

    int canHear(int m, int news) {
        if (!isMan(m) || !isNews(news)) return Check.UNKNOWN;
        boolean[][][][] with = with(news, 40);
        for (int n = 0; n <= 40; n++) {
            for (boolean[] row : with[m][n]) {
                for (boolean is : row) {
                    if (is) return n;
                }
            }
        }
        return -1;
    }

    private int[] firstOf(int news, int hours) {
        boolean[][][][] with = with(news, hours);
        for (int n = 0; n <= hours; n++) {
            for (int m = 0; m < men.size(); m++) {
                if (with[m][n][told.castle[1]][told.castle[0]]) return new int[] {n, m};
            }
        }
        return new int[] {-1, -1};
    }

    int first(int news, int what) {
        if (!isNews(news)) return Check.UNKNOWN;
        if (what < 0 || what > 1) return Check.OUTSIDE;
        return firstOf(news, 40)[what];
    }

    int sawed(int news, int n, int m) {
        if (!isNews(news) || m != -1 && !isMan(m)) return Check.UNKNOWN;
        if (n < 0 || n > 20) return Check.OUTSIDE;
        int count = men.size();
        int[] were = new int[count];
        for (int k = 0; k < count; k++) were[k] = men.get(k).stilts;
        int[] best = null;
        int bestSum = 0;
        int[] cut = new int[count];
        boolean more = true;
        while (more) {
            int sum = Arrays.stream(cut).sum();
            if (best == null || sum < bestSum) {
                for (int k = 0; k < count; k++) men.get(k).stilts = were[k] - cut[k];
                if (firstOf(news, n)[0] == -1) {
                    best = cut.clone();
                    bestSum = sum;
                }
            }
            int k = count - 1;
            while (k >= 0 && cut[k] == were[k]) cut[k--] = 0;
            if (k >= 0) cut[k]++;
            more = k >= 0;
        }
        for (int k = 0; k < count; k++) men.get(k).stilts = were[k];
        if (best == null) return -1;
        return m == -1 ? bestSum : best[m];
    }

    int bestStake(int news, int what) {
        if (!isNews(news)) return Check.UNKNOWN;
        if (what < 0 || what > 1) return Check.OUTSIDE;
        if (told.w == 0) return Check.NOT;
        int cell = -1;
        int soon = -1;
        for (int y = 0; y < told.h; y++) {
            for (int x = 0; x < told.w; x++) {
                boolean was = stakes[y][x];
                stakes[y][x] = true;
                int n = firstOf(news, 40)[0];
                stakes[y][x] = was;
                if (n != -1 && (soon == -1 || n < soon)) {
                    soon = n;
                    cell = 10 * x + y;
                }
            }
        }
        return what == 0 ? cell : soon;
    }

    int inch(int news, int m) {
        if (!isNews(news) || !isMan(m)) return Check.UNKNOWN;
        int now = firstOf(news, 40)[0];
        men.get(m).stilts++;
        int then = firstOf(news, 40)[0];
        men.get(m).stilts--;
        return (now == -1 ? 41 : now) - (then == -1 ? 41 : then);
    }

    int nobody(int i) {
        List<Integer> found = new ArrayList<>();
        for (int y = 0; y < told.h; y++) {
            for (int x = 0; x < told.w; x++) {
                boolean can = false;
                for (int m = 0; m < men.size(); m++) can |= canBe(m, x, y) != -1;
                if (!can) found.add(10 * x + y);
            }
        }
        if (i == -1) return found.size();
        return i < 0 || i >= found.size() ? -1 : found.get(i);
    }

    int alone(int m) {
        if (!isMan(m)) return Check.UNKNOWN;
        int count = 0;
        for (int y = 0; y < told.h; y++) {
            for (int x = 0; x < told.w; x++) {
                boolean alone = canBe(m, x, y) != -1;
                for (int o = 0; o < men.size(); o++) alone &= o == m || canBe(o, x, y) == -1;
                if (alone) count++;
            }
        }
        return count;
    }

    // ---- steps that were seen

    int track(int x, int y) {
        if (!isCell(x, y)) return Check.UNKNOWN;
        int were = seen.size();
        seen.clear();
        begin = new int[] {x, y};
        return were;
    }

    int see(int x, int y, int n) {
        if (!isCell(x, y)) return Check.UNKNOWN;
        if (n < 0 || n > 40) return Check.OUTSIDE;
        if (seen.size() == 20) return Check.FULL;
        seen.add(new int[] {x, y, n});
        return seen.size();
    }

    /** In the order of their hours, each step must be within reach of the one before. */
    int fits() {
        if (begin == null) return Check.NOT;
        List<int[]> sorted = new ArrayList<>(seen);
        sorted.sort((a, b) -> Integer.compare(a[2], b[2]));
        int set = 0;
        int now = hour;
        for (int l = 0; l <= 6; l++) {
            int x = begin[0];
            int y = begin[1];
            int at = 0;
            boolean fits = true;
            for (int[] s : sorted) {
                hour = now + at;
                fits &= can(x, y, l)[s[2] - at][s[1]][s[0]];
                x = s[0];
                y = s[1];
                at = s[2];
            }
            hour = now;
            if (fits) set |= 1 << l;
        }
        return set;
    }

    // ---- books, draws, images

    int write(int m, int way) {
        if (!isMan(m)) return Check.UNKNOWN;
        if (way < 0 || way > 4) return Check.OUTSIDE;
        if (book.size() == 40) return Check.FULL;
        book.add(new int[] {m, way});
        return book.size();
    }

    int tear() {
        int were = book.size();
        book.clear();
        return were;
    }

    /** Man by man, each till his first wrong one; then the least place in the book. */
    int judge() {
        int wrong = -1;
        for (int m = 0; m < men.size(); m++) {
            int x = men.get(m).x;
            int y = men.get(m).y;
            int k = 0;
            for (int i = 0; i < book.size(); i++) {
                if (book.get(i)[0] != m) continue;
                k++;
                int way = book.get(i)[1];
                if (!mayBe(x, y, way, men.get(m).stilts, hour + k)) {
                    if (wrong == -1 || i < wrong) wrong = i;
                    break;
                }
                x += DX[way];
                y += DY[way];
            }
        }
        return wrong;
    }

    int seed(int v) {
        if (v < 0) return Check.OUTSIDE;
        int was = seed;
        seed = v;
        return was;
    }

    private static boolean[][] copy(boolean[][] rows) {
        boolean[][] c = new boolean[rows.length][];
        for (int i = 0; i < rows.length; i++) c[i] = rows[i].clone();
        return c;
    }

    int keep(int i) {
        if (i < 0 || i > 1) return Check.UNKNOWN;
        Image k = new Image();
        k.hour = hour;
        k.seed = seed;
        k.stakes = copy(stakes);
        for (Man m : men) k.men.add(m.copy());
        images[i] = k;
        return 1;
    }

    int goBack(int i) {
        if (i < 0 || i > 1) return Check.UNKNOWN;
        Image k = images[i];
        if (k == null) return Check.NOT;
        hour = k.hour;
        seed = k.seed;
        stakes = copy(k.stakes);
        men = new ArrayList<>();
        for (Man m : k.men) men.add(m.copy());
        return 1;
    }
}
