/**
 * A burnt ledger: what is left of cells and sums, and which fillings of the holes fit it.
 * Everything that a call needs is made in the constructor, so that calls make no objects.
 */
public final class BurntLedger {
    public static final int BAD = -1, FULL = -2, FINDING = -3, STATE = -4, SPENT = -6, NONE = -9;

    private static final int NOTHING = 1, BEYOND = 2, UNLIKE = 3, NOUGHT = 4, SIZE = 5;
    private static final int CELL = 0, FIGURE = 1, TIMES = 2, SAME = 3, ORDER = 4, GONE = 5;
    private static final int MISSING = -1;

    private static final int ROWS = 6, ROW_SIZE = 40;
    private static final int TEXTS = 4, TEXT_SIZE = 60, BLANK = 32;
    private static final int CELLS = 12, NUMBERS = 100;
    private static final int SUMS = 8, LEAST_TOTAL = -999, GREATEST_TOTAL = 9999;
    private static final int HEAP_SIZE = 12, WEIGHTS = 10, PAGES = 6;
    private static final int TURNS = 20000;

    private final Rows rows = new Rows(ROWS, ROW_SIZE, 0);
    private final Rows texts = new Rows(TEXTS, TEXT_SIZE, BLANK);
    private final Reader reader = new Reader();
    private final Heap theHeap = new Heap();
    private final Cells cells = new Cells(theHeap);
    private final Sums sums = new Sums(cells);
    private final Narrowing narrowing = new Narrowing(cells, sums);
    private final Walk walk = new Walk(cells, sums, narrowing);
    private final Pages pages = new Pages();
    private final Places heapPlaces = new Places(cells, theHeap, narrowing);
    private final int[] findingCounts = new int[SIZE + 1];
    private int latestFinding = 0;
    private int latestAsked = 0;
    private long latestUpper = 0;
    private long latestLower = 1;

    public BurntLedger() {
    }

    // ---- 1 rows, texts, the book

    public int row(int r, int n) {
        if (!isRow(r) || n > ROW_SIZE) {
            return BAD;
        }
        if (n < 0) {
            return found(SIZE);
        }
        rows.make(r, n);
        return n;
    }

    public int lay(int r, int i, int v) {
        int refused = refusePlace(r, i);
        if (refused != 0) {
            return refused;
        }
        latestAsked = rows.get(r, i);
        rows.set(r, i, v);
        return 1;
    }

    public int at(int r, int i) {
        int refused = refusePlace(r, i);
        if (refused != 0) {
            return refused;
        }
        latestAsked = rows.get(r, i);
        return 1;
    }

    public int tear(int r) {
        int refused = refuseRow(r);
        if (refused != 0) {
            return refused;
        }
        rows.remove(r);
        return 1;
    }

    public int copy(int r, int i, int to, int j, int n) {
        if (!isRow(r) || !isRow(to)) {
            return BAD;
        }
        if (n < 0) {
            return found(SIZE);
        }
        if (!rows.isThere(r) || !rows.isThere(to)) {
            return found(NOTHING);
        }
        if (!rows.hasSpan(r, i, n) || !rows.hasSpan(to, j, n)) {
            return found(BEYOND);
        }
        rows.move(r, i, to, j, n);
        return 1;
    }

    public int mean(int r) {
        int refused = refuseRow(r);
        if (refused != 0) {
            return refused;
        }
        int size = rows.sizeOf(r);
        if (size <= 0) {
            return found(NOUGHT);
        }
        latestAsked = (int) (rows.addUp(r) / size);
        return 1;
    }

    public int text(int t, int n) {
        if (!isText(t) || n > TEXT_SIZE) {
            return BAD;
        }
        if (n < 0) {
            return found(SIZE);
        }
        texts.make(t, n);
        return n;
    }

    public int put(int t, int i, int v) {
        int refused = refuseText(t);
        if (refused != 0) {
            return refused;
        }
        if (i < 0 || i >= texts.sizeOf(t)) {
            return found(BEYOND);
        }
        int before = texts.get(t, i);
        texts.set(t, i, (byte) v);
        return before + 1000;
    }

    public int fault(int t) {
        int refused = refuseText(t);
        if (refused != 0) {
            return refused;
        }
        return reader.findFault(texts, t);
    }

    public int book(int t) {
        int refused = refuseText(t);
        if (refused != 0) {
            return refused;
        }
        if (reader.findFault(texts, t) != NONE) {
            return STATE;
        }
        reader.writeTo(cells);
        return cells.howMany();
    }

    public int sum(int plus, int less, int total) {
        if (!isCellBits(plus) || !isCellBits(less) || (plus | less) == 0 || (plus & less) != 0) {
            return BAD;
        }
        if (!isTotal(total)) {
            return BAD;
        }
        if (sums.howMany() >= SUMS) {
            return FULL;
        }
        sums.append(plus, less, total);
        return sums.howMany();
    }

    public int total(int s, int v) {
        if (s < 0 || s >= sums.howMany() || !isTotal(v)) {
            return BAD;
        }
        int before = sums.totalOf(s);
        sums.setTotal(s, v);
        return before;
    }

    public int clear() {
        int gone = sums.howMany();
        sums.removeAll();
        return gone;
    }

    public int heap(int r) {
        int refused = refuseRow(r);
        if (refused != 0) {
            return refused;
        }
        if (rows.sizeOf(r) > HEAP_SIZE) {
            return found(SIZE);
        }
        if (!rows.allWithin(r, 0, NUMBERS - 1)) {
            return found(UNLIKE);
        }
        theHeap.take(rows, r);
        return theHeap.howMany();
    }

    public int read(int c, int v) {
        if (!isNumber(v)) {
            return BAD;
        }
        int refused = refuseCell(c);
        if (refused != 0) {
            return refused;
        }
        int before = cells.kindOf(c);
        cells.write(c, CELL, v, v);
        return before;
    }

    public int kind(int c) {
        int refused = refuseCell(c);
        if (refused != 0) {
            return refused;
        }
        return cells.kindOf(c);
    }

    public int mark(int c, int kind) {
        if (kind <= CELL || kind > GONE) {
            return BAD;
        }
        int refused = refuseCell(c);
        if (refused != 0) {
            return refused;
        }
        if (cells.kindOf(c) != kind) {
            return found(UNLIKE);
        }
        return cells.tells(c);
    }

    // ---- 2 narrowed

    public int left(int c, int when) {
        if (when != 0 && when != 1) {
            return BAD;
        }
        int refused = refuseCell(c);
        if (refused != 0) {
            return refused;
        }
        if (when == 0) {
            narrowing.lookAtFirst();
        } else {
            narrowAll();
        }
        return narrowing.howMany(c);
    }

    public int ends(int c) {
        int refused = refuseCell(c);
        if (refused != 0) {
            return refused;
        }
        narrowAll();
        if (!narrowing.hasAny(c)) {
            return NONE;
        }
        latestAsked = narrowing.greatest(c);
        return narrowing.least(c);
    }

    public int may(int c, int v) {
        if (!isNumber(v)) {
            return BAD;
        }
        int refused = refuseCell(c);
        if (refused != 0) {
            return refused;
        }
        narrowAll();
        return narrowing.isLeft(c, v) ? 1 : 0;
    }

    public int burnt() {
        narrowing.lookAtFirst();
        for (int s = 0; s < sums.howMany(); s++) {
            if (!narrowing.canComeOut(s)) {
                return s;
            }
        }
        return NONE;
    }

    // ---- 3 fillings

    public int count(int turns) {
        int refused = goThroughAll(turns);
        if (refused != 0) {
            return refused;
        }
        latestAsked = walk.stepsTaken();
        return walk.fillings();
    }

    public int fill(int i, int r, int turns) {
        if (i < 0 || !isRow(r) || !isTurns(turns)) {
            return BAD;
        }
        narrowAll();
        walk.goTo(i, turns, 0);
        if (walk.isSpent()) {
            return SPENT;
        }
        if (!walk.hasReached()) {
            return NONE;
        }
        walk.writeReached(rows, r);
        return 1;
    }

    public int could(int c, int v, int turns) {
        if (!isNumber(v) || !isTurns(turns)) {
            return BAD;
        }
        int refused = refuseCell(c);
        if (refused != 0) {
            return refused;
        }
        refused = goThroughAll(turns);
        if (refused != 0) {
            return refused;
        }
        int with = walk.fillingsWith(c, v);
        tellFraction(with, walk.fillings());
        return with;
    }

    public int must(int c, int turns) {
        if (!isTurns(turns)) {
            return BAD;
        }
        int refused = refuseCell(c);
        if (refused != 0) {
            return refused;
        }
        refused = goThroughAll(turns);
        if (refused != 0) {
            return refused;
        }
        if (walk.fillings() == 0) {
            return NONE;
        }
        latestAsked = walk.greatestOf(c);
        return walk.leastOf(c);
    }

    public int sure(int turns) {
        int refused = goThroughAll(turns);
        if (refused != 0) {
            return refused;
        }
        if (walk.fillings() == 0) {
            return 0;
        }
        int bits = 0;
        for (int c = 0; c < CELLS; c++) {
            if (cells.isThere(c) && walk.worthOf(c) == walk.fillings()) {
                bits |= 1 << c;
            }
        }
        return bits;
    }

    public int like(int weights, int r, int turns) {
        if (!isRow(r) || !isTurns(turns)) {
            return BAD;
        }
        int refused = refuseRow(weights);
        if (refused != 0) {
            return refused;
        }
        if (rows.sizeOf(weights) != WEIGHTS) {
            return found(SIZE);
        }
        if (!rows.allWithin(weights, 0, 99)) {
            return found(UNLIKE);
        }
        walk.weighBy(rows, weights);
        refused = goThroughAll(turns);
        if (refused != 0) {
            return refused;
        }
        if (walk.fillings() == 0) {
            return NONE;
        }
        walk.writeLikeliest(rows, r);
        return walk.greatestWeight();
    }

    public int wrong(int turns) {
        if (!isTurns(turns)) {
            return BAD;
        }
        narrowing.lookAtFirst();
        int sets = 1 << sums.howMany();
        for (int size = 0; size <= sums.howMany(); size++) {
            for (int out = 0; out < sets; out++) {
                if (Integer.bitCount(out) != size) {
                    continue;
                }
                narrowing.narrow(out);
                walk.goTo(0, turns, out);
                if (walk.isSpent()) {
                    return SPENT;
                }
                if (walk.hasReached()) {
                    return out;
                }
            }
        }
        return NONE;
    }

    public int next(int turns) {
        int refused = goThroughAll(turns);
        if (refused != 0) {
            return refused;
        }
        if (walk.fillings() == 0) {
            return NONE;
        }
        int best = NONE;
        int bestWorth = 0;
        for (int c = 0; c < CELLS; c++) {
            if (cells.isThere(c) && (best == NONE || walk.worthOf(c) < bestWorth)) {
                best = c;
                bestWorth = walk.worthOf(c);
            }
        }
        if (best != NONE) {
            latestAsked = bestWorth;
        }
        return best;
    }

    public int judge(int r) {
        int refused = refuseRow(r);
        if (refused != 0) {
            return refused;
        }
        if (rows.sizeOf(r) != CELLS) {
            return found(SIZE);
        }
        int[] told = rows.placesOf(r);
        for (int c = 0; c < CELLS; c++) {
            if (!cells.isRightIn(c, told)) {
                return 100 + c;
            }
        }
        for (int s = 0; s < sums.howMany(); s++) {
            if (!sums.comesOut(s, told)) {
                return 200 + s;
            }
        }
        return NONE;
    }

    // ---- 4 pages, the other book

    public int orders(int r) {
        int refused = refuseRow(r);
        if (refused != 0) {
            return refused;
        }
        int size = rows.sizeOf(r);
        if (size < 2 || size > 2 * PAGES || size % 2 != 0) {
            return found(SIZE);
        }
        for (int i = 0; i < size; i++) {
            int carried = rows.get(r, i);
            if (carried != NONE && (carried < 0 || carried > 9999)) {
                return found(UNLIKE);
            }
        }
        pages.arrange(rows, r);
        latestAsked = pages.firstOrder();
        return pages.howManyOrders();
    }

    public int matches() {
        narrowAll();
        heapPlaces.match();
        latestAsked = heapPlaces.forced();
        return heapPlaces.ways();
    }

    // ---- 5 what is told

    public int asked() {
        return latestAsked;
    }

    public long upper() {
        return latestUpper;
    }

    public long lower() {
        return latestLower;
    }

    public int there(int what) {
        switch (what) {
            case 0:
                return cells.howMany();
            case 1:
                return sums.howMany();
            case 2:
                return theHeap.howMany();
            case 3:
                return rows.howMany();
            case 4:
                return texts.howMany();
            default:
                return BAD;
        }
    }

    public int finding() {
        return latestFinding;
    }

    public int findings(int f) {
        if (f < NOTHING || f > SIZE) {
            return BAD;
        }
        return findingCounts[f];
    }

    public long digest() {
        long h = 17;
        for (int what = 0; what <= 4; what++) {
            h = 31 * h + there(what);
        }
        narrowing.lookAtFirst();
        for (int c = 0; c < CELLS; c++) {
            h = 31 * h + cells.kindOf(c);
            if (cells.isThere(c)) {
                h = 31 * h + cells.tells(c);
                h = 31 * h + narrowing.howMany(c);
            }
        }
        h = sums.mixInto(h);
        h = theHeap.mixInto(h);
        h = rows.mixInto(h);
        return texts.mixInto(h);
    }

    // ---- what refuses

    private int found(int f) {
        latestFinding = f;
        findingCounts[f]++;
        return FINDING;
    }

    private static boolean isRow(int r) {
        return r >= 0 && r < ROWS;
    }

    private static boolean isText(int t) {
        return t >= 0 && t < TEXTS;
    }

    private static boolean isCell(int c) {
        return c >= 0 && c < CELLS;
    }

    private static boolean isNumber(int v) {
        return v >= 0 && v < NUMBERS;
    }

    private static boolean isCellBits(int bits) {
        return bits >= 0 && bits < 1 << CELLS;
    }

    private static boolean isTotal(int v) {
        return v >= LEAST_TOTAL && v <= GREATEST_TOTAL;
    }

    private static boolean isTurns(int turns) {
        return turns >= 1 && turns <= TURNS;
    }

    /** The refusals answer 0 if there is nothing to refuse: no refusal bears that number. */
    private int refuseRow(int r) {
        if (!isRow(r)) {
            return BAD;
        }
        return rows.isThere(r) ? 0 : found(NOTHING);
    }

    private int refusePlace(int r, int i) {
        int refused = refuseRow(r);
        if (refused != 0) {
            return refused;
        }
        return i >= 0 && i < rows.sizeOf(r) ? 0 : found(BEYOND);
    }

    private int refuseText(int t) {
        if (!isText(t)) {
            return BAD;
        }
        return texts.isThere(t) ? 0 : found(NOTHING);
    }

    private int refuseCell(int c) {
        if (!isCell(c)) {
            return BAD;
        }
        return cells.isThere(c) ? 0 : found(NOTHING);
    }

    // ---- what several calls share

    private void narrowAll() {
        narrowing.lookAtFirst();
        narrowing.narrow(0);
    }

    private int goThroughAll(int turns) {
        if (!isTurns(turns)) {
            return BAD;
        }
        narrowAll();
        walk.forgetTally();
        walk.goTo(Walk.ALL, turns, 0);
        return walk.isSpent() ? SPENT : 0;
    }

    private void tellFraction(int part, int whole) {
        if (part <= 0 || whole <= 0) {
            latestUpper = 0;
            latestLower = 1;
            return;
        }
        int divisor = commonDivisor(part, whole);
        latestUpper = part / divisor;
        latestLower = whole / divisor;
    }

    /** Both numbers are above 0, so the answer is, too; no int needs fifty turns. */
    private static int commonDivisor(int a, int b) {
        for (int turn = 0; turn < 50 && b > 0; turn++) {
            int rest = a % b;
            a = b;
            b = rest;
        }
        return Math.max(a, 1);
    }

    /** ROWS, or TEXTS. They keep their full room, so that making one anew makes no object. */
    private static final class Rows {
        private final int[][] places;
        private final int[] sizes;
        private final int empty;

        Rows(int many, int longest, int empty) {
            this.places = new int[many][longest];
            this.sizes = new int[many];
            this.empty = empty;
            for (int r = 0; r < many; r++) {
                sizes[r] = MISSING;
            }
        }

        boolean isThere(int r) {
            return sizes[r] != MISSING;
        }

        int sizeOf(int r) {
            return sizes[r];
        }

        int[] placesOf(int r) {
            return places[r];
        }

        int get(int r, int i) {
            return places[r][i];
        }

        void set(int r, int i, int v) {
            places[r][i] = v;
        }

        void make(int r, int n) {
            sizes[r] = n;
            for (int i = 0; i < n; i++) {
                places[r][i] = empty;
            }
        }

        void remove(int r) {
            sizes[r] = MISSING;
        }

        boolean hasSpan(int r, int i, int n) {
            return i >= 0 && i <= sizes[r] && n <= sizes[r] - i;
        }

        void move(int r, int i, int to, int j, int n) {
            System.arraycopy(places[r], i, places[to], j, n);
        }

        long addUp(int r) {
            long all = 0;
            for (int i = 0; i < sizes[r]; i++) {
                all += places[r][i];
            }
            return all;
        }

        boolean allWithin(int r, int from, int to) {
            for (int i = 0; i < sizes[r]; i++) {
                if (places[r][i] < from || places[r][i] > to) {
                    return false;
                }
            }
            return true;
        }

        int howMany() {
            int n = 0;
            for (int r = 0; r < sizes.length; r++) {
                n += isThere(r) ? 1 : 0;
            }
            return n;
        }

        long mixInto(long h) {
            for (int r = 0; r < sizes.length; r++) {
                h = 31 * h + sizes[r];
                for (int i = 0; i < sizes[r]; i++) {
                    h = 31 * h + places[r][i];
                }
            }
            return h;
        }
    }

    /** Reads a TEXT into a draft, so that one with a FAULT leaves THE BOOK as it was. */
    private static final class Reader {
        /** No byte is that, so no item goes on with it. */
        private static final int END = 1000;
        private static final int FIRST_LETTER = 'a';

        private final int[] kinds = new int[CELLS];
        private final int[] firsts = new int[CELLS];
        private final int[] seconds = new int[CELLS];
        private int[] signs = new int[0];
        private int size = 0;
        private int place = 0;
        private boolean stuck = false;

        int findFault(Rows texts, int t) {
            signs = texts.placesOf(t);
            size = texts.sizeOf(t);
            place = 0;
            stuck = false;
            for (int c = 0; c < CELLS; c++) {
                kinds[c] = MISSING;
            }
            skipBlanks();
            for (int items = 0; items < TEXT_SIZE && !stuck && place < size; items++) {
                readItem();
                skipBlanks();
            }
            return stuck ? place : NONE;
        }

        void writeTo(Cells cells) {
            for (int c = 0; c < CELLS; c++) {
                cells.write(c, kinds[c], firsts[c], seconds[c]);
            }
        }

        private int sign() {
            return place < size && place < signs.length ? signs[place] : END;
        }

        private void skipBlanks() {
            while (!stuck && place < size && sign() == BLANK) {
                place++;
            }
        }

        private void readItem() {
            int c = readLetter();
            if (stuck) {
                return;
            }
            int what = sign();
            place++;
            switch (what) {
                case '[':
                    readSpan(c, CELL);
                    expect(']');
                    break;
                case '=':
                    readFigure(c);
                    break;
                case '*':
                    note(c, TIMES, readOther(c), readOther(c));
                    break;
                case '#':
                    note(c, SAME, 0, 0);
                    break;
                case '>':
                    note(c, ORDER, readOther(c), 0);
                    break;
                case '~':
                    readSpan(c, GONE);
                    break;
                default:
                    place--;
                    stuck = true;
            }
        }

        private void note(int c, int kind, int first, int second) {
            kinds[c] = kind;
            firsts[c] = first;
            seconds[c] = second;
        }

        private int readLetter() {
            int c = sign() - FIRST_LETTER;
            if (stuck || !isCell(c)) {
                stuck = true;
                return 0;
            }
            place++;
            return c;
        }

        private int readOther(int own) {
            int c = readLetter();
            if (c == own) {
                stuck = true;
            }
            return c;
        }

        private void expect(int wanted) {
            if (stuck || sign() != wanted) {
                stuck = true;
                return;
            }
            place++;
        }

        private void readSpan(int c, int kind) {
            int from = readNumber();
            expect(',');
            int to = readNumber();
            if (from > to) {
                stuck = true;
            }
            note(c, kind, from, to);
        }

        private boolean isFigure() {
            return sign() >= '0' && sign() <= '9';
        }

        private int readNumber() {
            if (stuck || !isFigure()) {
                stuck = true;
                return 0;
            }
            int number = sign() - '0';
            place++;
            if (isFigure()) {
                number = 10 * number + sign() - '0';
                place++;
            }
            return number;
        }

        private boolean isFigureSign() {
            return isFigure() || sign() == Cells.ANY || sign() == Cells.TWO;
        }

        /** One sign alone is a figure behind a nought: numbers below ten have no other first figure. */
        private void readFigure(int c) {
            if (!isFigureSign()) {
                stuck = true;
                return;
            }
            int tens = '0';
            int units = sign();
            place++;
            if (isFigureSign()) {
                tens = units;
                units = sign();
                place++;
            }
            note(c, FIGURE, tens, units);
        }
    }

    /**
     * THE BOOK: of each CELL its KIND and two numbers (from and to, two signs, or the CELLS that
     * it names).
     */
    private static final class Cells {
        static final int ANY = '?', TWO = 'x';

        private final Heap heap;
        private final int[] kinds = new int[CELLS];
        private final int[] firsts = new int[CELLS];
        private final int[] seconds = new int[CELLS];
        private int there = 0;

        Cells(Heap heap) {
            this.heap = heap;
            for (int c = 0; c < CELLS; c++) {
                kinds[c] = MISSING;
            }
        }

        void write(int c, int kind, int first, int second) {
            kinds[c] = kind;
            firsts[c] = first;
            seconds[c] = second;
            there = kind == MISSING ? there & ~(1 << c) : there | 1 << c;
        }

        boolean isThere(int c) {
            return kinds[c] != MISSING;
        }

        int thereBits() {
            return there;
        }

        int kindOf(int c) {
            return kinds[c];
        }

        int firstOf(int c) {
            return firsts[c];
        }

        int secondOf(int c) {
            return seconds[c];
        }

        int howMany() {
            return Integer.bitCount(there);
        }

        int tells(int c) {
            switch (kinds[c]) {
                case FIGURE:
                    return figuresOf(firsts[c]) * figuresOf(seconds[c]);
                case TIMES:
                    return 12 * firsts[c] + seconds[c];
                case SAME:
                    return heap.howManyUnlike();
                case ORDER:
                    return firsts[c];
                default:
                    return 100 * firsts[c] + seconds[c];
            }
        }

        private static int figuresOf(int sign) {
            return sign == ANY ? 10 : sign == TWO ? 2 : 1;
        }

        private static boolean fits(int sign, int figure) {
            if (sign == TWO) {
                return figure == 3 || figure == 8;
            }
            return sign == ANY || sign - '0' == figure;
        }

        /** Whether a number is one of a CELL's KIND alone, whatever the others are. */
        boolean allows(int c, int v) {
            switch (kinds[c]) {
                case CELL:
                    return v >= firsts[c] && v <= seconds[c];
                case FIGURE:
                    return fits(firsts[c], v / 10) && fits(seconds[c], v % 10);
                case TIMES:
                    return isThere(firsts[c]) && isThere(seconds[c]);
                case SAME:
                    return heap.howOften(v) > 0;
                case ORDER:
                    return isThere(firsts[c]);
                case GONE:
                    return v == 0 || v >= firsts[c] && v <= seconds[c];
                default:
                    return false;
            }
        }

        /** The RULES of other KINDS are met by each number that is left. */
        boolean looksAtOthers(int c) {
            return kinds[c] == TIMES || kinds[c] == SAME || kinds[c] == ORDER;
        }

        /** Whether a RULE holds among others: all that it names are told, and its KIND allows it. */
        boolean holdsAmong(int c, int[] told) {
            switch (kinds[c]) {
                case TIMES:
                    return told[c] == told[firsts[c]] * told[seconds[c]];
                case SAME:
                    return heap.howOften(told[c]) >= sameUpTo(c, told);
                case ORDER:
                    return told[c] > told[firsts[c]];
                default:
                    return true;
            }
        }

        private int sameUpTo(int c, int[] told) {
            int n = 0;
            for (int other = 0; other <= c; other++) {
                if (kinds[other] == SAME && told[other] == told[c]) {
                    n++;
                }
            }
            return n;
        }

        /** The CELL behind which the RULE of a CELL can be looked at. */
        int lastNamed(int c) {
            switch (kinds[c]) {
                case TIMES:
                    return Math.max(c, Math.max(firsts[c], seconds[c]));
                case ORDER:
                    return Math.max(c, firsts[c]);
                default:
                    return c;
            }
        }

        boolean isRightIn(int c, int[] told) {
            if (!isThere(c)) {
                return told[c] == -1;
            }
            if (!isNumber(told[c]) || !allows(c, told[c])) {
                return false;
            }
            if (kinds[c] == TIMES && !isNumber(told[seconds[c]])) {
                return false;
            }
            if ((kinds[c] == TIMES || kinds[c] == ORDER) && !isNumber(told[firsts[c]])) {
                return false;
            }
            return holdsAmong(c, told);
        }
    }

    /** THE HEAP, with how often each number is there, so that SAME ones are looked up at once. */
    private static final class Heap {
        private final int[] numbers = new int[HEAP_SIZE];
        private final int[] often = new int[NUMBERS];
        private int size = 0;

        /** The ROW has been looked at: no more than twelve numbers, each 0 .. 99. */
        void take(Rows rows, int r) {
            for (int v = 0; v < NUMBERS; v++) {
                often[v] = 0;
            }
            size = Math.min(rows.sizeOf(r), HEAP_SIZE);
            for (int i = 0; i < size; i++) {
                numbers[i] = rows.get(r, i);
                often[numbers[i]]++;
            }
        }

        int howMany() {
            return size;
        }

        int numberAt(int i) {
            return numbers[i];
        }

        int howOften(int v) {
            return often[v];
        }

        int howManyUnlike() {
            int n = 0;
            for (int v = 0; v < NUMBERS; v++) {
                n += often[v] > 0 ? 1 : 0;
            }
            return n;
        }

        long mixInto(long h) {
            for (int i = 0; i < size; i++) {
                h = 31 * h + numbers[i];
            }
            return h;
        }
    }

    private static final class Sums {
        private final Cells cells;
        private final int[] pluses = new int[SUMS];
        private final int[] lesses = new int[SUMS];
        private final int[] totals = new int[SUMS];
        private int size = 0;

        Sums(Cells cells) {
            this.cells = cells;
        }

        int howMany() {
            return size;
        }

        void append(int plus, int less, int total) {
            pluses[size] = plus;
            lesses[size] = less;
            totals[size] = total;
            size++;
        }

        void removeAll() {
            size = 0;
        }

        int totalOf(int s) {
            return totals[s];
        }

        void setTotal(int s, int v) {
            totals[s] = v;
        }

        /** 1, -1, or 0: a missing CELL counts for nothing in any SUM. */
        int signOf(int s, int c) {
            if (!cells.isThere(c)) {
                return 0;
            }
            return (pluses[s] >> c & 1) - (lesses[s] >> c & 1);
        }

        boolean comesOut(int s, int[] told) {
            int plus = pluses[s] & cells.thereBits();
            int less = lesses[s] & cells.thereBits();
            int rest = totals[s];
            for (int c = 0; c < CELLS; c++) {
                rest -= ((plus >> c & 1) - (less >> c & 1)) * told[c];
            }
            return rest == 0;
        }

        /** The CELL behind which a SUM can be looked at; -1: none of its CELLS is there. */
        int lastNamed(int s) {
            for (int c = CELLS - 1; c >= 0; c--) {
                if (signOf(s, c) != 0) {
                    return c;
                }
            }
            return -1;
        }

        long mixInto(long h) {
            for (int s = 0; s < size; s++) {
                h = 31 * h + pluses[s];
                h = 31 * h + lesses[s];
                h = 31 * h + totals[s];
            }
            return h;
        }
    }

    /**
     * MAY. All that narrows cuts numbers off below or above, so what is left of a CELL is what it
     * had at first between two ends.
     */
    private static final class Narrowing {
        /** Each pass but the last takes a number away, and there are 1200 at most. */
        private static final int PASSES = CELLS * NUMBERS + 1;

        private final Cells cells;
        private final Sums sums;
        private final boolean[] first = new boolean[CELLS * NUMBERS];
        private final int[] least = new int[CELLS];
        private final int[] greatest = new int[CELLS];
        private boolean moved = false;
        private boolean emptied = false;

        Narrowing(Cells cells, Sums sums) {
            this.cells = cells;
            this.sums = sums;
        }

        void lookAtFirst() {
            for (int c = 0; c < CELLS; c++) {
                for (int v = 0; v < NUMBERS && cells.isThere(c); v++) {
                    first[c * NUMBERS + v] = cells.allows(c, v);
                }
            }
            widen();
        }

        private void widen() {
            emptied = false;
            for (int c = 0; c < CELLS; c++) {
                if (cells.isThere(c)) {
                    least[c] = 0;
                    greatest[c] = NUMBERS - 1;
                    keep(c, 0, NUMBERS - 1);
                }
            }
        }

        /** SUMS in leftOut (bits) do not narrow. lookAtFirst() has to come ahead. */
        void narrow(int leftOut) {
            widen();
            moved = true;
            for (int pass = 0; pass < PASSES && moved && !emptied; pass++) {
                moved = false;
                for (int s = 0; s < sums.howMany(); s++) {
                    if ((leftOut >> s & 1) == 0) {
                        narrowBySum(s);
                    }
                }
                narrowByRules();
            }
            if (emptied) {
                leaveNothing();
            }
        }

        private void leaveNothing() {
            for (int c = 0; c < CELLS; c++) {
                least[c] = NUMBERS;
                greatest[c] = -1;
            }
        }

        private void keep(int c, int from, int to) {
            int low = least[c];
            int high = greatest[c];
            while (low <= high && (low < from || !first[c * NUMBERS + low])) {
                low++;
            }
            while (high >= low && (high > to || !first[c * NUMBERS + high])) {
                high--;
            }
            if (low != least[c] || high != greatest[c]) {
                moved = true;
                least[c] = low;
                greatest[c] = high;
            }
            if (low > high) {
                emptied = true;
            }
        }

        private void narrowBySum(int s) {
            int restForLeast = sums.totalOf(s) - leastOfSum(s);
            int restForGreatest = sums.totalOf(s) - greatestOfSum(s);
            for (int c = 0; c < CELLS && !emptied; c++) {
                int low = least[c];
                int high = greatest[c];
                if (sums.signOf(s, c) > 0) {
                    keep(c, restForGreatest + high, restForLeast + low);
                } else if (sums.signOf(s, c) < 0) {
                    keep(c, high - restForLeast, low - restForGreatest);
                }
            }
        }

        private int leastOfSum(int s) {
            int all = 0;
            for (int c = 0; c < CELLS; c++) {
                int sign = sums.signOf(s, c);
                all += sign > 0 ? least[c] : sign < 0 ? -greatest[c] : 0;
            }
            return all;
        }

        private int greatestOfSum(int s) {
            int all = 0;
            for (int c = 0; c < CELLS; c++) {
                int sign = sums.signOf(s, c);
                all += sign > 0 ? greatest[c] : sign < 0 ? -least[c] : 0;
            }
            return all;
        }

        private void narrowByRules() {
            for (int c = 0; c < CELLS && !emptied; c++) {
                if (cells.kindOf(c) == TIMES) {
                    narrowByProduct(c, cells.firstOf(c), cells.secondOf(c));
                } else if (cells.kindOf(c) == ORDER) {
                    narrowByOrder(c, cells.firstOf(c));
                }
            }
        }

        private void narrowByOrder(int above, int below) {
            keep(above, least[below] + 1, NUMBERS - 1);
            keep(below, 0, greatest[above] - 1);
        }

        private void narrowByProduct(int product, int one, int other) {
            keep(product, least[one] * least[other], greatest[one] * greatest[other]);
            narrowFactor(product, one, other);
            narrowFactor(product, other, one);
        }

        private void narrowFactor(int product, int factor, int other) {
            if (emptied) {
                return;
            }
            int from = leastFactor(least[product], greatest[other]);
            int to = greatestFactor(greatest[product], least[other]);
            keep(factor, from, to);
        }

        private static int leastFactor(int product, int other) {
            if (other <= 0) {
                return product > 0 ? NUMBERS : 0;
            }
            return (product + other - 1) / other;
        }

        private static int greatestFactor(int product, int other) {
            return other <= 0 ? NUMBERS - 1 : product / other;
        }

        boolean hasAny(int c) {
            return least[c] <= greatest[c];
        }

        int least(int c) {
            return least[c];
        }

        int greatest(int c) {
            return greatest[c];
        }

        boolean isLeft(int c, int v) {
            return v >= least[c] && v <= greatest[c] && first[c * NUMBERS + v];
        }

        int howMany(int c) {
            int n = 0;
            for (int v = least[c]; v <= greatest[c]; v++) {
                n += isLeft(c, v) ? 1 : 0;
            }
            return n;
        }

        /** By the ends that are there now: at first, if narrow() did not come since. */
        boolean canComeOut(int s) {
            for (int c = 0; c < CELLS; c++) {
                if (sums.signOf(s, c) != 0 && !hasAny(c)) {
                    return false;
                }
            }
            return leastOfSum(s) <= sums.totalOf(s) && sums.totalOf(s) <= greatestOfSum(s);
        }
    }

    /**
     * GOING THROUGH what is left: it has to be narrowed ahead. What calls ask of all FILLINGS is
     * gathered on the way.
     */
    private static final class Walk {
        static final int ALL = -1;

        private final Cells cells;
        private final Sums sums;
        private final Narrowing narrowing;
        private final int[] told = new int[CELLS];
        private final int[] likeliest = new int[CELLS];
        private final int[] weights = new int[WEIGHTS];
        private final int[] tally = new int[CELLS * NUMBERS];
        private final int[] rulesAt = new int[CELLS];
        private final int[] sumsAt = new int[CELLS];
        private int wanted = ALL;
        private int limit = 0;
        private int steps = 0;
        private int found = 0;
        private int bestWeight = 0;
        private boolean spent = false;
        private boolean reached = false;

        Walk(Cells cells, Sums sums, Narrowing narrowing) {
            this.cells = cells;
            this.sums = sums;
            this.narrowing = narrowing;
        }

        void weighBy(Rows rows, int r) {
            for (int figure = 0; figure < WEIGHTS; figure++) {
                weights[figure] = rows.get(r, figure);
            }
        }

        void forgetTally() {
            for (int i = 0; i < tally.length; i++) {
                tally[i] = 0;
            }
        }

        /** No further than to the wanted FILLING; SUMS in leftOut (bits) count for nothing. */
        void goTo(int filling, int turns, int leftOut) {
            wanted = filling;
            limit = turns;
            steps = 0;
            found = 0;
            bestWeight = -1;
            spent = false;
            reached = false;
            if (setChecks(leftOut)) {
                tell(0);
            }
        }

        /** Sorts RULES and SUMS by the CELL behind which they are looked at; false: one is broken. */
        private boolean setChecks(int leftOut) {
            for (int c = 0; c < CELLS; c++) {
                rulesAt[c] = 0;
                sumsAt[c] = 0;
            }
            for (int c = 0; c < CELLS; c++) {
                if (cells.looksAtOthers(c)) {
                    rulesAt[cells.lastNamed(c)] |= 1 << c;
                }
            }
            for (int s = 0; s < sums.howMany(); s++) {
                int last = sums.lastNamed(s);
                if ((leftOut >> s & 1) != 0) {
                    continue;
                }
                if (last >= 0) {
                    sumsAt[last] |= 1 << s;
                } else if (sums.totalOf(s) != 0) {
                    return false;
                }
            }
            return true;
        }

        private boolean isEnded() {
            return spent || reached;
        }

        /** The depth is the CELL: no more than twelve. */
        private void tell(int c) {
            if (c >= CELLS) {
                takeFilling();
                return;
            }
            if (!cells.isThere(c)) {
                tell(c + 1);
                return;
            }
            for (int v = narrowing.least(c); v <= narrowing.greatest(c) && !isEnded(); v++) {
                if (narrowing.isLeft(c, v) && tryNumber(c, v)) {
                    tell(c + 1);
                }
            }
        }

        private boolean tryNumber(int c, int v) {
            if (steps >= limit) {
                spent = true;
                return false;
            }
            steps++;
            told[c] = v;
            return rulesHold(rulesAt[c]) && sumsComeOut(sumsAt[c]);
        }

        private boolean rulesHold(int bits) {
            for (int c = 0; c < CELLS && bits >> c != 0; c++) {
                if ((bits >> c & 1) != 0 && !cells.holdsAmong(c, told)) {
                    return false;
                }
            }
            return true;
        }

        private boolean sumsComeOut(int bits) {
            for (int s = 0; s < SUMS && bits >> s != 0; s++) {
                if ((bits >> s & 1) != 0 && !sums.comesOut(s, told)) {
                    return false;
                }
            }
            return true;
        }

        private void takeFilling() {
            if (wanted == ALL) {
                tallyFilling();
                weighFilling();
            }
            reached = found == wanted;
            found++;
        }

        private void tallyFilling() {
            for (int c = 0; c < CELLS; c++) {
                if (cells.isThere(c)) {
                    tally[c * NUMBERS + told[c]]++;
                }
            }
        }

        private void weighFilling() {
            int weight = 0;
            for (int c = 0; c < CELLS; c++) {
                weight += cells.isThere(c) ? weights[told[c] % 10] : 0;
            }
            if (weight > bestWeight) {
                bestWeight = weight;
                System.arraycopy(told, 0, likeliest, 0, CELLS);
            }
        }

        boolean isSpent() {
            return spent;
        }

        boolean hasReached() {
            return reached;
        }

        int stepsTaken() {
            return steps;
        }

        int fillings() {
            return found;
        }

        int fillingsWith(int c, int v) {
            return tally[c * NUMBERS + v];
        }

        int greatestWeight() {
            return bestWeight;
        }

        int leastOf(int c) {
            int v = 0;
            while (v < NUMBERS - 1 && fillingsWith(c, v) == 0) {
                v++;
            }
            return v;
        }

        int greatestOf(int c) {
            int v = NUMBERS - 1;
            while (v > 0 && fillingsWith(c, v) == 0) {
                v--;
            }
            return v;
        }

        int worthOf(int c) {
            int most = 0;
            for (int v = 0; v < NUMBERS; v++) {
                most = Math.max(most, fillingsWith(c, v));
            }
            return most;
        }

        void writeReached(Rows rows, int r) {
            writeFilling(told, rows, r);
        }

        void writeLikeliest(Rows rows, int r) {
            writeFilling(likeliest, rows, r);
        }

        private void writeFilling(int[] numbers, Rows rows, int r) {
            rows.make(r, CELLS);
            for (int c = 0; c < CELLS; c++) {
                rows.set(r, c, cells.isThere(c) ? numbers[c] : -1);
            }
        }
    }

    /** ORDERS of PAGES. */
    private static final class Pages {
        private final int[] carriedIn = new int[PAGES];
        private final int[] carriedOut = new int[PAGES];
        private int size = 0;
        private int found = 0;
        private int firstFound = 0;

        void arrange(Rows rows, int r) {
            size = Math.min(rows.sizeOf(r) / 2, PAGES);
            for (int p = 0; p < size; p++) {
                carriedIn[p] = rows.get(r, 2 * p);
                carriedOut[p] = rows.get(r, 2 * p + 1);
            }
            found = 0;
            firstFound = 0;
            place(0, 0, NONE, 0);
        }

        /** The least page comes first, so the first order found is the one with the least figures. */
        private void place(int depth, int used, int carried, int figures) {
            if (depth >= size) {
                if (found == 0) {
                    firstFound = figures;
                }
                found++;
                return;
            }
            for (int p = 0; p < size; p++) {
                if ((used >> p & 1) == 0 && runsOn(carried, carriedIn[p])) {
                    place(depth + 1, used | 1 << p, carriedOut[p], 10 * figures + p + 1);
                }
            }
        }

        private static boolean runsOn(int out, int in) {
            return out == in || out == NONE || in == NONE;
        }

        int howManyOrders() {
            return found;
        }

        int firstOrder() {
            return firstFound;
        }
    }

    /**
     * MATCHES. Ways are counted by sets of taken places: which SAME CELL is next follows from how
     * many are taken.
     */
    private static final class Places {
        private final Cells cells;
        private final Heap heap;
        private final Narrowing narrowing;
        private final int[] same = new int[CELLS];
        private final int[] open = new int[CELLS];
        private final int[] used = new int[CELLS];
        private final boolean[] reached = new boolean[1 << HEAP_SIZE];
        private final int[] behind = new int[1 << HEAP_SIZE];
        private int size = 0;

        Places(Cells cells, Heap heap, Narrowing narrowing) {
            this.cells = cells;
            this.heap = heap;
            this.narrowing = narrowing;
        }

        /** What is left has to be narrowed ahead. */
        void match() {
            findOpenPlaces();
            findReached();
            countBehind();
            for (int k = 0; k < size; k++) {
                used[k] = usedPlaces(k);
            }
        }

        private void findOpenPlaces() {
            size = 0;
            for (int c = 0; c < CELLS; c++) {
                if (cells.kindOf(c) != SAME) {
                    continue;
                }
                same[size] = c;
                open[size] = 0;
                for (int p = 0; p < heap.howMany(); p++) {
                    if (narrowing.isLeft(c, heap.numberAt(p))) {
                        open[size] |= 1 << p;
                    }
                }
                size++;
            }
        }

        private int sets() {
            return 1 << heap.howMany();
        }

        /** The places that are open to the CELL that comes next behind those that took a set. */
        private int openBehind(int set) {
            int k = Integer.bitCount(set);
            return k < size ? open[k] & ~set : 0;
        }

        /** Which sets the first CELLS can take, just as many as there are places in it. */
        private void findReached() {
            for (int set = 0; set < sets(); set++) {
                reached[set] = set == 0;
            }
            for (int set = 0; set < sets(); set++) {
                int free = reached[set] ? openBehind(set) : 0;
                for (int p = 0; p < HEAP_SIZE && free >> p != 0; p++) {
                    if ((free >> p & 1) != 0) {
                        reached[set | 1 << p] = true;
                    }
                }
            }
        }

        /** In how many ways all others find places behind a set that is taken. */
        private void countBehind() {
            for (int set = sets() - 1; set >= 0; set--) {
                behind[set] = Integer.bitCount(set) == size ? 1 : 0;
                int free = openBehind(set);
                for (int p = 0; p < HEAP_SIZE && free >> p != 0; p++) {
                    if ((free >> p & 1) != 0) {
                        behind[set] += behind[set | 1 << p];
                    }
                }
            }
        }

        private int usedPlaces(int k) {
            int places = 0;
            for (int set = 0; set < sets(); set++) {
                if (Integer.bitCount(set) != k || !reached[set]) {
                    continue;
                }
                int free = openBehind(set);
                for (int p = 0; p < HEAP_SIZE && free >> p != 0; p++) {
                    if ((free >> p & 1) != 0 && behind[set | 1 << p] > 0) {
                        places |= 1 << p;
                    }
                }
            }
            return places;
        }

        int ways() {
            return behind[0];
        }

        int forced() {
            int bits = 0;
            for (int k = 0; k < size; k++) {
                bits |= haveOneNumber(used[k]) ? 1 << same[k] : 0;
            }
            return bits;
        }

        /** False for no place: without MATCHES nothing is FORCED. */
        private boolean haveOneNumber(int places) {
            int number = NONE;
            for (int p = 0; p < heap.howMany(); p++) {
                if ((places >> p & 1) == 0) {
                    continue;
                }
                if (number != NONE && number != heap.numberAt(p)) {
                    return false;
                }
                number = heap.numberAt(p);
            }
            return number != NONE;
        }
    }
}
