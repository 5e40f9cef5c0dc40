import java.util.Arrays;

/**
 * Heralds on stilts: news in a flooded province goes by men on stilts of unlike length.
 *
 * Sets of cells are kept as bits of a long (36 cells at most): what men can do within 40 hours is
 * asked some hundred times in one call, and this way no call makes an object.
 */
public final class StiltHeralds {
    public static final int NONE = -1, UNKNOWN = -1000000001, OUTSIDE = -1000000002, NOT = -1000000003, FULL = -1000000004;

    private static final int MAX_TEXT = 500;
    private static final int MAX_SIDE = 9;
    private static final int MAX_CELLS = 36;
    private static final int MAX_TIDES = 6;
    private static final int MAX_MEN = 4;
    private static final int MAX_NEWS = 4;
    private static final int MAX_STILTS = 6;
    /** INCH asks for stilts that are one longer than the longest that can be told. */
    private static final int LONGEST_ASKED = MAX_STILTS + 1;
    private static final int CALM = 5;
    private static final int MAX_WAY = 4;
    private static final int HORIZON = 40;
    private static final int MAX_SAW_HOURS = 20;
    private static final int MAX_HOURS = 99;
    private static final int MAX_SEEN = 20;
    private static final int MAX_BOOK = 40;
    private static final int IMAGES = 2;
    /** 2 to the 31 less 1: all bits that a seed has, so a mask leaves over by 2 to the 31. */
    private static final int MAX_SEED = 2147483647;

    private final Text text = new Text();
    private final Land land = new Land();
    private final LandReader reader = new LandReader(text);
    private final State state = new State(land);
    private final Outlook outlook = new Outlook(land, state);
    private final Footsteps footsteps = new Footsteps(land, state);
    private final Book book = new Book(state);
    private final State[] images = new State[IMAGES];
    private final boolean[] kept = new boolean[IMAGES];

    public StiltHeralds() {
        for (int i = 0; i < images.length; i++) {
            images[i] = new State(land);
        }
    }

    // ---- the province

    public int feed(int n, long bytes) {
        if (n < 1 || n > 8) {
            return OUTSIDE;
        }
        if (text.length + n > MAX_TEXT) {
            return FULL;
        }
        text.append(n, bytes);
        return text.length;
    }

    public int province() {
        boolean good = reader.read();
        text.length = 0;
        if (!good) {
            return -10 - reader.faultKind;
        }
        land.become(reader.draft);
        state.begin();
        footsteps.forget();
        book.count = 0;
        for (int i = 0; i < kept.length; i++) {
            kept[i] = false;
        }
        return land.cells();
    }

    public int fault() {
        return reader.faultAt;
    }

    public int told(int what) {
        switch (what) {
            case 0: return land.width;
            case 1: return land.height;
            case 2: return land.tides;
            case 3: return land.men;
            case 4: return land.news;
            case 5: return text.length;
            case 6: return state.hour;
            case 7: return land.nameOf(land.castle);
            case 8: return footsteps.count;
            case 9: return book.count;
            case 10: return state.knownAt(land.castle);
            default: return OUTSIDE;
        }
    }

    public int depth(int x, int y, int n) {
        if (!land.isCell(x, y)) {
            return UNKNOWN;
        }
        if (n < 0 || n > MAX_HOURS) {
            return OUTSIDE;
        }
        return state.depthOf(land.cellOf(x, y), state.hour + n);
    }

    public int man(int m, int what) {
        if (!land.isMan(m)) {
            return UNKNOWN;
        }
        switch (what) {
            case 0: return land.columnOf(state.cell[m]);
            case 1: return land.rowOf(state.cell[m]);
            case 2: return state.stilts[m];
            case 3: return state.known[m];
            case 4: return state.wetKnees[m];
            case 5: return state.isWet(m) ? 1 : 0;
            case 6: return state.ordered[m];
            default: return OUTSIDE;
        }
    }

    // ---- hours

    public int order(int m, int way) {
        if (!land.isMan(m)) {
            return UNKNOWN;
        }
        if (!isWay(way)) {
            return OUTSIDE;
        }
        int before = state.ordered[m];
        state.ordered[m] = way;
        return before;
    }

    public int hour(int n) {
        return letPass(n, false);
    }

    public int drift(int n) {
        return letPass(n, true);
    }

    public int saw(int m, int l) {
        if (!land.isMan(m)) {
            return UNKNOWN;
        }
        if (l < 0 || l > MAX_STILTS) {
            return OUTSIDE;
        }
        int before = state.stilts[m];
        state.stilts[m] = l;
        return before;
    }

    public int stake(int x, int y, boolean is) {
        if (!land.isCell(x, y)) {
            return UNKNOWN;
        }
        int cell = land.cellOf(x, y);
        boolean before = has(state.stakes, cell);
        state.stakes = is ? state.stakes | (1L << cell) : state.stakes & ~(1L << cell);
        return before ? 1 : 0;
    }

    // ---- what can be

    public int canBe(int m, int x, int y) {
        if (!land.isMan(m) || !land.isCell(x, y)) {
            return UNKNOWN;
        }
        outlook.takeAsItIs();
        return outlook.hoursToBe(m, land.cellOf(x, y));
    }

    public int canHear(int m, int news) {
        if (!land.isMan(m) || !land.isNews(news)) {
            return UNKNOWN;
        }
        outlook.takeAsItIs();
        return outlook.hoursToHear(m, news);
    }

    public int first(int news, int what) {
        if (!land.isNews(news)) {
            return UNKNOWN;
        }
        if (what < 0 || what > 1) {
            return OUTSIDE;
        }
        outlook.takeAsItIs();
        int hours = outlook.hoursToCastle(news, HORIZON);
        return what == 0 ? hours : outlook.bearer();
    }

    public int sawed(int news, int n, int m) {
        if (!land.isNews(news) || (m != NONE && !land.isMan(m))) {
            return UNKNOWN;
        }
        if (n < 0 || n > MAX_SAW_HOURS) {
            return OUTSIDE;
        }
        int sum = outlook.leastCuts(news, n);
        if (sum == NONE || m == NONE) {
            return sum;
        }
        return outlook.bestCuts[m];
    }

    public int bestStake(int news, int what) {
        if (!land.isNews(news)) {
            return UNKNOWN;
        }
        if (what < 0 || what > 1) {
            return OUTSIDE;
        }
        if (land.cells() == 0) {
            return NOT;
        }
        outlook.findBestStake(news);
        if (outlook.stakeCell == NONE) {
            return NONE;
        }
        return what == 0 ? land.nameOf(outlook.stakeCell) : outlook.stakeHours;
    }

    public int inch(int news, int m) {
        if (!land.isNews(news) || !land.isMan(m)) {
            return UNKNOWN;
        }
        return outlook.worthOfInch(news, m);
    }

    public int nobody(int i) {
        outlook.takeAsItIs();
        long empty = land.all & ~outlook.cellsOfOthers(NONE);
        if (i == NONE) {
            return Long.bitCount(empty);
        }
        return i < 0 ? NONE : land.nameOfNth(empty, i);
    }

    public int alone(int m) {
        if (!land.isMan(m)) {
            return UNKNOWN;
        }
        outlook.takeAsItIs();
        return Long.bitCount(outlook.cellsOf(m) & ~outlook.cellsOfOthers(m));
    }

    // ---- steps that were seen

    public int track(int x, int y) {
        if (!land.isCell(x, y)) {
            return UNKNOWN;
        }
        int before = footsteps.count;
        footsteps.beginAt(land.cellOf(x, y));
        return before;
    }

    public int see(int x, int y, int n) {
        if (!land.isCell(x, y)) {
            return UNKNOWN;
        }
        if (n < 0 || n > HORIZON) {
            return OUTSIDE;
        }
        if (footsteps.count >= MAX_SEEN) {
            return FULL;
        }
        footsteps.append(land.cellOf(x, y), n);
        return footsteps.count;
    }

    public int fits() {
        return footsteps.begin == NONE ? NOT : footsteps.lengthsThatFit();
    }

    // ---- books, draws, images

    public int write(int m, int way) {
        if (!land.isMan(m)) {
            return UNKNOWN;
        }
        if (!isWay(way)) {
            return OUTSIDE;
        }
        if (book.count >= MAX_BOOK) {
            return FULL;
        }
        book.append(m, way);
        return book.count;
    }

    public int tear() {
        int before = book.count;
        book.count = 0;
        return before;
    }

    public int judge() {
        return book.firstWrong();
    }

    public int seed(int v) {
        if (v < 0) {
            return OUTSIDE;
        }
        int before = state.seed;
        state.seed = v;
        return before;
    }

    public int keep(int i) {
        if (!isImage(i)) {
            return UNKNOWN;
        }
        images[i].become(state);
        kept[i] = true;
        return 1;
    }

    public int goBack(int i) {
        if (!isImage(i)) {
            return UNKNOWN;
        }
        if (!kept[i]) {
            return NOT;
        }
        state.become(images[i]);
        return 1;
    }

    private int letPass(int n, boolean byDraws) {
        if (n < 1 || n > MAX_HOURS) {
            return OUTSIDE;
        }
        if (land.cells() == 0) {
            return NOT;
        }
        for (int k = 0; k < n; k++) {
            if (byDraws) {
                state.orderByDraws();
            }
            state.passAnHour();
        }
        return state.hour;
    }

    private static boolean has(long set, int k) {
        return (set >> k & 1) != 0;
    }

    private static boolean isWay(int way) {
        return way >= 0 && way <= MAX_WAY;
    }

    private static boolean isImage(int i) {
        return i >= 0 && i < IMAGES;
    }

    /** THE TEXT: bytes that have come and are not yet a province. */
    private static final class Text {
        final byte[] bytes = new byte[MAX_TEXT];
        int length = 0;

        void append(int n, long from) {
            for (int k = n - 1; k >= 0 && length < bytes.length; k--) {
                bytes[length] = (byte) (from >>> (8 * k));
                length++;
            }
        }

        /** NONE at the end, so that a look at the end is like a look at a byte that nothing fits. */
        int byteAt(int i) {
            return i >= 0 && i < length && i < bytes.length ? bytes[i] & 255 : NONE;
        }
    }

    /** THE PROVINCE as it was told; nothing that goes on in it changes it. */
    private static final class Land {
        int width = 0;
        int height = 0;
        int tides = 1;
        int men = 0;
        int news = 0;
        int castle = 0;
        long all = 0;
        long notFirstColumn = 0;
        long notLastColumn = 0;
        final int[] depths = new int[MAX_CELLS];
        final int[] tide = new int[MAX_TIDES];
        final int[] manCell = new int[MAX_MEN];
        final int[] manStilts = new int[MAX_MEN];
        final int[] newsCell = new int[MAX_NEWS];
        /** Cells no deeper than a length, by length and tide: looked up, as every search needs them each hour. */
        final long[] shallow = new long[(LONGEST_ASKED + 1) * MAX_TIDES];

        Land() {
            tide[0] = CALM;
        }

        void clear() {
            width = 0;
            height = 0;
            tides = 1;
            tide[0] = CALM;
            men = 0;
            news = 0;
            castle = 0;
            Arrays.fill(depths, 0);
        }

        void become(Land other) {
            width = other.width;
            height = other.height;
            tides = other.tides;
            men = other.men;
            news = other.news;
            castle = other.castle;
            System.arraycopy(other.depths, 0, depths, 0, MAX_CELLS);
            System.arraycopy(other.tide, 0, tide, 0, MAX_TIDES);
            System.arraycopy(other.manCell, 0, manCell, 0, MAX_MEN);
            System.arraycopy(other.manStilts, 0, manStilts, 0, MAX_MEN);
            System.arraycopy(other.newsCell, 0, newsCell, 0, MAX_NEWS);
            survey();
        }

        private void survey() {
            all = 0;
            notFirstColumn = 0;
            notLastColumn = 0;
            for (int cell = 0; cell < cells(); cell++) {
                long bit = 1L << cell;
                int x = columnOf(cell);
                all |= bit;
                notFirstColumn |= x > 0 ? bit : 0;
                notLastColumn |= x < width - 1 ? bit : 0;
            }
            for (int length = 0; length <= LONGEST_ASKED; length++) {
                for (int t = 0; t < tides; t++) {
                    shallow[length * MAX_TIDES + t] = cellsNoDeeper(length, t);
                }
            }
        }

        private long cellsNoDeeper(int length, int hour) {
            long found = 0;
            for (int cell = 0; cell < cells(); cell++) {
                if (waterOn(cell, hour) <= length) {
                    found |= 1L << cell;
                }
            }
            return found;
        }

        int cells() {
            return width * height;
        }

        boolean isCell(int x, int y) {
            return x >= 0 && x < width && y >= 0 && y < height;
        }

        boolean isMan(int m) {
            return m >= 0 && m < men;
        }

        boolean isNews(int k) {
            return k >= 0 && k < news;
        }

        int cellOf(int x, int y) {
            return y * width + x;
        }

        int columnOf(int cell) {
            return width > 0 ? cell % width : 0;
        }

        int rowOf(int cell) {
            return width > 0 ? cell / width : 0;
        }

        /** A cell as it is answered: 10 times X and Y. */
        int nameOf(int cell) {
            return 10 * columnOf(cell) + rowOf(cell);
        }

        int nameOfNth(long set, int i) {
            int left = i;
            for (int cell = 0; cell < cells(); cell++) {
                if (has(set, cell)) {
                    if (left == 0) {
                        return nameOf(cell);
                    }
                    left--;
                }
            }
            return NONE;
        }

        int tideOf(int hour) {
            return tides > 0 && hour > 0 ? hour % tides : 0;
        }

        /** The depth that a cell has without a stake. */
        int waterOn(int cell, int hour) {
            int t = tideOf(hour);
            if (cell < 0 || cell >= depths.length || t >= tide.length) {
                return 0;
            }
            int depth = depths[cell] + tide[t] - CALM;
            return depth < 0 ? 0 : depth;
        }

        /** Cells no deeper than a length at a tide, without stakes. */
        long cellsFor(int length, int t) {
            int i = length * MAX_TIDES + t;
            return i >= 0 && i < shallow.length ? shallow[i] : 0;
        }

        /** Where one can be an hour later who may be on any cell of a set and may step on open cells. */
        long spread(long from, long open) {
            long beside = (from >>> width) | (from << width)
                | ((from & notLastColumn) << 1) | ((from & notFirstColumn) >>> 1);
            return from | (beside & open);
        }

        int beside(int cell, int way) {
            int x = columnOf(cell);
            int y = rowOf(cell);
            switch (way) {
                case 1: y--; break;
                case 2: x++; break;
                case 3: y++; break;
                case 4: x--; break;
                default: break;
            }
            return isCell(x, y) ? cellOf(x, y) : NONE;
        }
    }

    /**
     * Reads THE TEXT into a draft, so that a text with a fault leaves the province as it was.
     * The text is read from left to right and every fault is at the beginning of what is read, so
     * the first one found is the one to tell; what is read behind it is of no account.
     */
    private static final class LandReader {
        final Text text;
        final Land draft = new Land();
        int faultKind = 0;
        int faultAt = NONE;
        private int at = 0;
        private int wordAt = 0;
        private int rowsTold = 0;
        private boolean tideTold = false;
        private boolean castleTold = false;

        LandReader(Text text) {
            this.text = text;
        }

        boolean read() {
            draft.clear();
            faultKind = 0;
            faultAt = NONE;
            at = 0;
            rowsTold = 0;
            tideTold = false;
            castleTold = false;
            skipBlanks();
            // blanks tell nothing: a text of nothing else is an empty one
            if (at < text.length) {
                readLand();
                skipBlanks();
                // every round reads a byte at least or finds a fault
                for (int k = 0; k < MAX_TEXT && !failed() && at < text.length; k++) {
                    readStatement();
                    skipBlanks();
                }
            }
            return !failed();
        }

        private boolean failed() {
            return faultKind != 0;
        }

        private void fail(int kind, int where) {
            if (faultKind == 0) {
                faultKind = kind;
                faultAt = where;
            }
        }

        private void readLand() {
            takeWord();
            if (!wordIs("land")) {
                fail(1, wordAt);
            }
            int width = takeNumber(1, MAX_SIDE);
            int mostRows = width > 0 ? Math.min(MAX_SIDE, MAX_CELLS / width) : MAX_SIDE;
            int height = takeNumber(1, mostRows);
            takeSign(';');
            if (!failed()) {
                draft.width = width;
                draft.height = height;
            }
        }

        private void readStatement() {
            takeWord();
            if (wordIs("row")) {
                readRow();
            } else if (wordIs("tide")) {
                readTide();
            } else if (wordIs("man")) {
                readMan();
            } else if (wordIs("news")) {
                readNews();
            } else if (wordIs("castle")) {
                readCastle();
            } else {
                fail(wordIs("land") ? 3 : 1, wordAt);
            }
        }

        private void readRow() {
            skipBlanks();
            int rowAt = at;
            int y = takeNumber(0, draft.height - 1);
            if (has(rowsTold, y)) {
                fail(4, rowAt);
            }
            rowsTold |= 1 << y;
            for (int x = 0; x < draft.width && !failed(); x++) {
                if (x > 0) {
                    takeSign(',');
                }
                draft.depths[draft.cellOf(x, y)] = takeNumber(0, 9);
            }
            takeSign(';');
        }

        private void readTide() {
            if (tideTold) {
                fail(3, wordAt);
            }
            tideTold = true;
            draft.tide[0] = takeNumber(0, 9);
            int count = 1;
            while (count < MAX_TIDES && !failed() && nextIs(',')) {
                takeSign(',');
                draft.tide[count] = takeNumber(0, 9);
                count++;
            }
            takeSign(';');
            draft.tides = count;
        }

        private void readMan() {
            if (draft.men >= MAX_MEN) {
                fail(3, wordAt);
            }
            int cell = takeCell();
            int stilts = takeNumber(0, MAX_STILTS);
            takeSign(';');
            if (!failed()) {
                draft.manCell[draft.men] = cell;
                draft.manStilts[draft.men] = stilts;
                draft.men++;
            }
        }

        private void readNews() {
            if (draft.news >= MAX_NEWS) {
                fail(3, wordAt);
            }
            int cell = takeCell();
            takeSign(';');
            if (!failed()) {
                draft.newsCell[draft.news] = cell;
                draft.news++;
            }
        }

        private void readCastle() {
            if (castleTold) {
                fail(3, wordAt);
            }
            castleTold = true;
            draft.castle = takeCell();
            takeSign(';');
        }

        private int takeCell() {
            int x = takeNumber(0, draft.width - 1);
            int y = takeNumber(0, draft.height - 1);
            return draft.cellOf(x, y);
        }

        private void skipBlanks() {
            while (at < text.length && at < text.bytes.length && text.bytes[at] == ' ') {
                at++;
            }
        }

        private boolean nextIs(char sign) {
            skipBlanks();
            return text.byteAt(at) == sign;
        }

        private void takeSign(char sign) {
            skipBlanks();
            if (text.byteAt(at) == sign) {
                at++;
            } else {
                fail(1, at);
            }
        }

        private void takeWord() {
            skipBlanks();
            wordAt = at;
            while (at < text.length && isLetter(text.byteAt(at))) {
                at++;
            }
        }

        private boolean wordIs(String name) {
            if (at - wordAt != name.length()) {
                return false;
            }
            for (int i = 0; i < name.length(); i++) {
                if (text.byteAt(wordAt + i) != name.charAt(i)) {
                    return false;
                }
            }
            return true;
        }

        /** Answers a number within the bounds even after a fault, so that callers may use it as an index. */
        private int takeNumber(int least, int most) {
            skipBlanks();
            int start = at;
            int value = 0;
            while (at < text.length && isFigure(text.byteAt(at))) {
                // more than three figures are a fault whatever they say: they need no value
                value = at - start < 3 ? value * 10 + text.byteAt(at) - '0' : value;
                at++;
            }
            if (at == start) {
                fail(1, start);
            } else if (at - start > 3 || value < least || value > most) {
                fail(2, start);
            }
            return failed() ? Math.max(0, least) : value;
        }

        private static boolean isLetter(int sign) {
            return sign >= 'a' && sign <= 'z';
        }

        private static boolean isFigure(int sign) {
            return sign >= '0' && sign <= '9';
        }
    }

    /** What goes on in the province: all that an image keeps. */
    private static final class State {
        final Land land;
        int hour = 0;
        int seed = 0;
        long stakes = 0;
        final int[] cell = new int[MAX_MEN];
        final int[] stilts = new int[MAX_MEN];
        final int[] known = new int[MAX_MEN];
        final int[] wetKnees = new int[MAX_MEN];
        final int[] ordered = new int[MAX_MEN];

        State(Land land) {
            this.land = land;
        }

        void begin() {
            hour = 0;
            stakes = 0;
            System.arraycopy(land.manCell, 0, cell, 0, MAX_MEN);
            System.arraycopy(land.manStilts, 0, stilts, 0, MAX_MEN);
            Arrays.fill(known, 0);
            Arrays.fill(wetKnees, 0);
            Arrays.fill(ordered, 0);
            hearAndShare();
        }

        void become(State other) {
            hour = other.hour;
            seed = other.seed;
            stakes = other.stakes;
            System.arraycopy(other.cell, 0, cell, 0, MAX_MEN);
            System.arraycopy(other.stilts, 0, stilts, 0, MAX_MEN);
            System.arraycopy(other.known, 0, known, 0, MAX_MEN);
            System.arraycopy(other.wetKnees, 0, wetKnees, 0, MAX_MEN);
            System.arraycopy(other.ordered, 0, ordered, 0, MAX_MEN);
        }

        int depthOf(int place, int atHour) {
            return has(stakes, place) ? 0 : land.waterOn(place, atHour);
        }

        boolean isWet(int m) {
            return depthOf(cell[m], hour) > stilts[m];
        }

        /** Where a way leads that is gone till an hour; NONE if it may not be. */
        int wayLeads(int from, int way, int length, int tillHour) {
            if (way == 0) {
                return from;
            }
            int to = land.beside(from, way);
            return to != NONE && depthOf(to, tillHour) <= length ? to : NONE;
        }

        void passAnHour() {
            hour++;
            for (int m = 0; m < land.men; m++) {
                int to = wayLeads(cell[m], ordered[m], stilts[m], hour);
                cell[m] = to == NONE ? cell[m] : to;
            }
            hearAndShare();
            for (int m = 0; m < land.men; m++) {
                wetKnees[m] += isWet(m) ? 1 : 0;
            }
        }

        private void hearAndShare() {
            for (int m = 0; m < land.men; m++) {
                for (int k = 0; k < land.news; k++) {
                    if (cell[m] == land.newsCell[k]) {
                        known[m] |= 1 << k;
                    }
                }
            }
            for (int m = 0; m < land.men; m++) {
                known[m] = knownAt(cell[m]);
            }
        }

        int knownAt(int place) {
            int set = 0;
            for (int m = 0; m < land.men; m++) {
                if (cell[m] == place) {
                    set |= known[m];
                }
            }
            return set;
        }

        void orderByDraws() {
            for (int m = 0; m < land.men; m++) {
                seed = (int) ((seed * 1103515245L + 12345) & MAX_SEED);
                ordered[m] = seed / 65536 % (MAX_WAY + 1);
            }
        }
    }

    /** What can be from now on with any orders, with stilts and stakes that need not be those that are. */
    private static final class Outlook {
        final Land land;
        final State state;
        private final int[] lengths = new int[MAX_MEN];
        private long stakes = 0;
        /** Cells where a man can be, and where he can be with the news, in the hour that is looked at. */
        private final long[] places = new long[MAX_MEN];
        private final long[] withNews = new long[MAX_MEN];
        private final int[] cuts = new int[MAX_MEN];
        final int[] bestCuts = new int[MAX_MEN];
        private int bestSum = NONE;
        int stakeCell = NONE;
        int stakeHours = NONE;

        Outlook(Land land, State state) {
            this.land = land;
            this.state = state;
        }

        void takeAsItIs() {
            System.arraycopy(state.stilts, 0, lengths, 0, MAX_MEN);
            stakes = state.stakes;
        }

        private long anHourOn(int m, long set, int n) {
            return land.spread(set, land.cellsFor(lengths[m], land.tideOf(state.hour + n)) | stakes);
        }

        int hoursToBe(int m, int goal) {
            long set = 1L << state.cell[m];
            for (int n = 0; n <= HORIZON; n++) {
                if (has(set, goal)) {
                    return n;
                }
                set = anHourOn(m, set, n + 1);
            }
            return NONE;
        }

        long cellsOf(int m) {
            long set = 1L << state.cell[m];
            for (int n = 1; n <= HORIZON; n++) {
                set = anHourOn(m, set, n);
            }
            return set;
        }

        long cellsOfOthers(int but) {
            long set = 0;
            for (int m = 0; m < land.men; m++) {
                set |= m == but ? 0 : cellsOf(m);
            }
            return set;
        }

        private void beginWith(int news) {
            for (int m = 0; m < land.men; m++) {
                places[m] = 1L << state.cell[m];
                withNews[m] = has(state.known[m], news) ? places[m] : 0;
            }
            meet(news);
        }

        private void goOnWith(int news, int n) {
            int t = land.tideOf(state.hour + n);
            for (int m = 0; m < land.men; m++) {
                long open = land.cellsFor(lengths[m], t) | stakes;
                places[m] = land.spread(places[m], open);
                withNews[m] = land.spread(withNews[m], open);
            }
            meet(news);
        }

        /** One round is enough: who gets it where somebody has it adds no cell where it can be got. */
        private void meet(int news) {
            long told = 1L << land.newsCell[news];
            for (int m = 0; m < land.men; m++) {
                told |= withNews[m];
            }
            for (int m = 0; m < land.men; m++) {
                withNews[m] |= places[m] & told;
            }
        }

        int hoursToHear(int m, int news) {
            beginWith(news);
            for (int n = 0; n <= HORIZON; n++) {
                if (withNews[m] != 0) {
                    return n;
                }
                goOnWith(news, n + 1);
            }
            return NONE;
        }

        int hoursToCastle(int news, int limit) {
            beginWith(news);
            for (int n = 0; n <= limit; n++) {
                if (n > 0) {
                    goOnWith(news, n);
                }
                if (bearer() != NONE) {
                    return n;
                }
            }
            return NONE;
        }

        /** Who can be at the castle with the news in the hour that was looked at last. */
        int bearer() {
            for (int m = 0; m < land.men; m++) {
                if (has(withNews[m], land.castle)) {
                    return m;
                }
            }
            return NONE;
        }

        int worthOfInch(int news, int m) {
            takeAsItIs();
            int asItIs = countNone(hoursToCastle(news, HORIZON));
            lengths[m]++;
            return asItIs - countNone(hoursToCastle(news, HORIZON));
        }

        private static int countNone(int hours) {
            return hours == NONE ? HORIZON + 1 : hours;
        }

        void findBestStake(int news) {
            takeAsItIs();
            stakeCell = NONE;
            stakeHours = HORIZON + 1;
            // only what is sooner takes the place of an earlier cell: no need to look further than that
            for (int cell = 0; cell < land.cells() && stakeHours > 0; cell++) {
                stakes = state.stakes | (1L << cell);
                int hours = hoursToCastle(news, stakeHours - 1);
                if (hours != NONE) {
                    stakeCell = cell;
                    stakeHours = hours;
                }
            }
        }

        /** The least sum of inches, and which they are in bestCuts; NONE if no cuts will do. */
        int leastCuts(int news, int n) {
            takeAsItIs();
            bestSum = NONE;
            Arrays.fill(lengths, 0);
            if (hoursToCastle(news, n) == NONE) {
                tryCuts(news, n, 0, 0);
            }
            return bestSum;
        }

        /**
         * Cuts from man m on, first ones first; a later man's stilts are 0 while the cuts ahead of
         * him are tried: if the news comes even so, no cuts of later men can help.
         */
        private void tryCuts(int news, int n, int m, int spent) {
            if (m >= land.men || m >= MAX_MEN) {
                bestSum = spent;
                System.arraycopy(cuts, 0, bestCuts, 0, MAX_MEN);
                return;
            }
            for (int cut = 0; cut <= state.stilts[m]; cut++) {
                if (bestSum != NONE && spent + cut >= bestSum) {
                    break;
                }
                cuts[m] = cut;
                lengths[m] = state.stilts[m] - cut;
                if (hoursToCastle(news, n) == NONE) {
                    tryCuts(news, n, m + 1, spent + cut);
                }
            }
            lengths[m] = 0;
        }
    }

    /** STEPS SEEN of somebody unknown. */
    private static final class Footsteps {
        final Land land;
        final State state;
        int begin = NONE;
        int count = 0;
        private final int[] cell = new int[MAX_SEEN];
        private final int[] behind = new int[MAX_SEEN];

        Footsteps(Land land, State state) {
            this.land = land;
            this.state = state;
        }

        void forget() {
            begin = NONE;
            count = 0;
        }

        void beginAt(int place) {
            begin = place;
            count = 0;
        }

        void append(int place, int n) {
            if (count < MAX_SEEN) {
                cell[count] = place;
                behind[count] = n;
                count++;
            }
        }

        int lengthsThatFit() {
            int set = 0;
            for (int length = 0; length <= MAX_STILTS; length++) {
                set |= canBeAll(length) ? 1 << length : 0;
            }
            return set;
        }

        private boolean canBeAll(int length) {
            long places = (1L << begin) & seenAt(0);
            for (int n = 1; n <= HORIZON && places != 0; n++) {
                long open = land.cellsFor(length, land.tideOf(state.hour + n)) | state.stakes;
                places = land.spread(places, open) & seenAt(n);
            }
            return places != 0;
        }

        private long seenAt(int n) {
            long set = land.all;
            for (int i = 0; i < count; i++) {
                if (behind[i] == n) {
                    set &= 1L << cell[i];
                }
            }
            return set;
        }
    }

    /** THE BOOK: a row of orders. */
    private static final class Book {
        final State state;
        int count = 0;
        private final int[] man = new int[MAX_BOOK];
        private final int[] way = new int[MAX_BOOK];
        private final int[] cell = new int[MAX_MEN];
        private final int[] hours = new int[MAX_MEN];

        Book(State state) {
            this.state = state;
        }

        void append(int m, int w) {
            if (count < MAX_BOOK) {
                man[count] = m;
                way[count] = w;
                count++;
            }
        }

        /** Men don't hinder one another, so the book can be tried in its own order, each man by his own hours. */
        int firstWrong() {
            System.arraycopy(state.cell, 0, cell, 0, MAX_MEN);
            Arrays.fill(hours, state.hour);
            for (int i = 0; i < count; i++) {
                int m = man[i];
                hours[m]++;
                int to = state.wayLeads(cell[m], way[i], state.stilts[m], hours[m]);
                if (to == NONE) {
                    return i;
                }
                cell[m] = to;
            }
            return NONE;
        }
    }
}
