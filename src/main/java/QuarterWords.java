/**
 * Pictures of eight by eight cells, told as words of letters. A picture is held as a long whose
 * bit 8 y + x stands for the cell at x, y: just what black() tells.
 */
public final class QuarterWords {
    public static final int UNKNOWN = -1, OUTSIDE = -2, STATE = -3, FULL = -4, NONE = -9;

    private static final int PICTURES = 3, CELLS = 64, QUARTERS = 4, SLOTS = 2, WAYS = 8;
    private static final int WIDTH = 8, DEEPEST = 3;
    private static final int MOST_LETTERS = 64, MOST_WORD = 85, MOST_ACTS = 14, MOST_SEEN = 6;
    private static final int MOST_DOINGS = 4, MOST_YEARS = 30;

    /** The kinds of doings, by the figures that judge tells them with. */
    private static final int JOINED = 1, MET = 2, LESS = 3, TURNED = 4, FLIPPED = 5;
    private static final int HALVED = 6, GROWN = 7, HAS_PARTS = 8, IS_ALIKE = 9;

    private final Album live = new Album();
    private final Album trial = new Album();
    private final Album[] slots = new Album[SLOTS];
    private final Text text = new Text();
    private final Acts acts = new Acts();
    private final Sight sight = new Sight();
    private final Walk walk = new Walk();
    private final int[] doings = new int[MOST_DOINGS];
    private long theSeed = 0L;

    public QuarterWords() {
    }

    // ---- words

    public int write(int letter) {
        if (letter < 0 || letter > 255) {
            return OUTSIDE;
        }
        return text.add(letter) ? text.size() : FULL;
    }

    public int wipe() {
        int before = text.size();
        text.clear();
        return before;
    }

    public int fault() {
        return text.firstFault();
    }

    public int put(int picture) {
        if (!isPicture(picture)) {
            return UNKNOWN;
        }
        if (text.firstFault() != NONE) {
            return STATE;
        }
        return Long.bitCount(change(picture, text.drawn()));
    }

    // ---- acts

    public int join(int one, int other) {
        return combine(JOINED, one, other);
    }

    public int meet(int one, int other) {
        return combine(MET, one, other);
    }

    public int less(int one, int other) {
        return combine(LESS, one, other);
    }

    public int turn(int picture) {
        if (!isPicture(picture)) {
            return UNKNOWN;
        }
        return Shapes.lowestRow(change(picture, Shapes.turned(live.cells(picture))));
    }

    public int flip(int picture) {
        if (!isPicture(picture)) {
            return UNKNOWN;
        }
        return Shapes.lowestRow(change(picture, Shapes.flipped(live.cells(picture))));
    }

    public int halve(int picture, int quarter) {
        if (!isPicture(picture) || !isQuarter(quarter)) {
            return UNKNOWN;
        }
        return Long.bitCount(change(picture, Shapes.halved(live.cells(picture), quarter)));
    }

    public int grow(int picture, int quarter) {
        if (!isPicture(picture) || !isQuarter(quarter)) {
            return UNKNOWN;
        }
        return Long.bitCount(change(picture, Shapes.grown(live.cells(picture), quarter)));
    }

    public int undo() {
        if (acts.size() == 0) {
            return STATE;
        }
        live.set(acts.lastPicture(), acts.lastBefore());
        acts.dropLast();
        return acts.size();
    }

    // ---- looks

    public long black(int picture) {
        return live.cells(picture);
    }

    public int look(int picture, int what) {
        if (!isPicture(picture)) {
            return UNKNOWN;
        }
        long cells = live.cells(picture);
        switch (what) {
            case 0:
                return Long.bitCount(cells);
            case 1:
                return walk.leastLength(cells);
            case 2:
                return Shapes.parts(cells);
            case 3:
                return Shapes.rim(cells);
            case 4:
                return Shapes.blocks(cells);
            default:
                return OUTSIDE;
        }
    }

    public int letter(int picture, int i) {
        if (!isPicture(picture)) {
            return UNKNOWN;
        }
        return walk.leastLetter(live.cells(picture), i);
    }

    public int at(int picture, int cell, int what) {
        if (!isPicture(picture) || !isCell(cell)) {
            return UNKNOWN;
        }
        long cells = live.cells(picture);
        switch (what) {
            case 0:
                return Shapes.isBlack(cells, cell) ? 1 : 0;
            case 1:
                return Shapes.depthAt(cells, cell);
            case 2:
                return Shapes.sign(cells, Shapes.squareOf(cell, Shapes.depthAt(cells, cell)));
            default:
                return OUTSIDE;
        }
    }

    public int alike(int one, int other) {
        if (!isPicture(one) || !isPicture(other)) {
            return UNKNOWN;
        }
        return Shapes.waysAlike(live.cells(one), live.cells(other));
    }

    public int near(int one, int other, int what) {
        if (!isPicture(one) || !isPicture(other)) {
            return UNKNOWN;
        }
        if (what != 0 && what != 1) {
            return OUTSIDE;
        }
        int way = Shapes.nearestWay(live.cells(one), live.cells(other));
        return what == 1 ? way : Shapes.unlike(live.cells(one), live.cells(other), way);
    }

    public int judge(int n, long row) {
        if (n < 1 || n > MOST_DOINGS || row < 0L || !readsDoings(n, row)) {
            return OUTSIDE;
        }
        trial.copyFrom(live);
        for (int place = 0; place < n; place++) {
            int doing = doings[place];
            if (!trial.does(doing / 100, doing / 10 % 10, doing % 10)) {
                return place;
            }
        }
        return NONE;
    }

    // ---- seen

    public int see(int cell, int black) {
        if (!isCell(cell)) {
            return UNKNOWN;
        }
        if (black != 0 && black != 1) {
            return OUTSIDE;
        }
        return sight.add(cell, black == 1) ? sight.size() : FULL;
    }

    public int unsee() {
        int before = sight.size();
        sight.clear();
        return before;
    }

    public int leaves(int what) {
        if (what == 0) {
            return sight.fits();
        }
        return what == 1 ? sight.firstFit() : OUTSIDE;
    }

    // ---- shares, rests, chances

    public int share(int picture, boolean upper) {
        if (!isPicture(picture)) {
            return UNKNOWN;
        }
        int sixths = 0;
        for (int cell = 0; cell < CELLS; cell++) {
            if (Shapes.isBlack(live.cells(picture), cell)) {
                sixths += sixthsOfCell(live.blackIn(cell));
            }
        }
        return told(sixths, 6, upper);
    }

    public int rests(int one, int other, int what) {
        if (!isPicture(one) || !isPicture(other)) {
            return UNKNOWN;
        }
        if (one == other || (what != 0 && what != 1)) {
            return OUTSIDE;
        }
        int number = 0;
        int first = NONE;
        for (int pair = 0; pair < 4; pair++) {
            if (isRest(one, other, pair / 2, pair % 2)) {
                first = number == 0 ? 10 * (pair / 2) + pair % 2 : first;
                number++;
            }
        }
        return what == 0 ? number : first;
    }

    public int fades(int picture, int v, int x, boolean upper) {
        if (!isPicture(picture)) {
            return UNKNOWN;
        }
        if (v < 0 || v > CELLS || x < 0 || x > 10) {
            return OUTSIDE;
        }
        int chances = 0;
        for (int stay = 0; stay < 1 << QUARTERS; stay++) {
            if (areaLeft(live.cells(picture), stay) >= v) {
                chances += chanceOf(stay, x);
            }
        }
        return told(chances, 10000, upper);
    }

    public long seed(long v) {
        long before = theSeed;
        theSeed = v;
        return before;
    }

    public int years(int m) {
        if (m < 1 || m > MOST_YEARS) {
            return OUTSIDE;
        }
        trial.copyFrom(live);
        int sum = 0;
        for (int year = 0; year < m; year++) {
            theSeed = theSeed * 6364136223846793005L + 1442695040888963407L;
            passYear((int) ((theSeed >>> 33) % 36L));
            sum += trial.area();
        }
        return sum;
    }

    // ---- slots

    public int keep(int slot) {
        if (slot < 0 || slot >= SLOTS) {
            return UNKNOWN;
        }
        Album kept = slots[slot];
        if (kept == null) {
            kept = new Album();
            slots[slot] = kept;
        }
        kept.copyFrom(live);
        return live.area();
    }

    public int again(int slot) {
        if (slot < 0 || slot >= SLOTS) {
            return UNKNOWN;
        }
        Album kept = slots[slot];
        if (kept == null) {
            return STATE;
        }
        live.copyFrom(kept);
        acts.clear();
        return live.area();
    }

    public int count(int what) {
        switch (what) {
            case 0:
                return text.size();
            case 1:
                return live.area();
            case 2:
                return Long.bitCount(live.cells(0) | live.cells(1) | live.cells(2));
            case 3:
                return Long.bitCount(live.cells(0) & live.cells(1) & live.cells(2));
            case 4:
                return acts.size();
            case 5:
                return sight.size();
            default:
                return OUTSIDE;
        }
    }

    // ---- behind the face

    private static boolean isPicture(int picture) {
        return picture >= 0 && picture < PICTURES;
    }

    private static boolean isCell(int cell) {
        return cell >= 0 && cell < CELLS;
    }

    private static boolean isQuarter(int quarter) {
        return quarter >= 0 && quarter < QUARTERS;
    }

    /** Every act goes through here, so that none misses its place in the row. */
    private long change(int picture, long after) {
        acts.add(picture, live.cells(picture));
        live.set(picture, after);
        return after;
    }

    private int combine(int kind, int one, int other) {
        if (!isPicture(one) || !isPicture(other)) {
            return UNKNOWN;
        }
        if (one == other) {
            return OUTSIDE;
        }
        return Long.bitCount(change(one, Shapes.combined(kind, live.cells(one), live.cells(other))));
    }

    /** Reads from the last doing on, as the first one holds the highest figures; false: the row is longer. */
    private boolean readsDoings(int n, long row) {
        long rest = row;
        for (int place = Math.min(n, MOST_DOINGS) - 1; place >= 0; place--) {
            doings[place] = (int) (rest % 1000L);
            rest /= 1000L;
        }
        return rest == 0L;
    }

    /** A cell is new with the first that has it, and of so many each is first as often: one part of them. */
    private static int sixthsOfCell(int havers) {
        if (havers == 1) {
            return 6;
        }
        return havers == 2 ? 3 : 2;
    }

    private boolean isRest(int one, int other, int ofOne, int ofOther) {
        long third = live.cells(PICTURES - one - other);
        long mine = Shapes.byWay(live.cells(one), ofOne);
        long mineElse = Shapes.byWay(live.cells(one), 1 - ofOne);
        long yours = Shapes.byWay(live.cells(other), ofOther);
        long yoursElse = Shapes.byWay(live.cells(other), 1 - ofOther);
        return gain(mine, yours, third) >= gain(mineElse, yours, third)
            && gain(yours, mine, third) >= gain(yoursElse, mine, third);
    }

    private static int gain(long mine, long yours, long third) {
        return Long.bitCount(mine & third) - Long.bitCount(mine & yours);
    }

    private static int areaLeft(long cells, int stay) {
        int area = 0;
        for (int quarter = 0; quarter < QUARTERS; quarter++) {
            if ((stay >> quarter & 1) == 1) {
                area += Long.bitCount(cells & Shapes.quarterCells(quarter));
            }
        }
        return area;
    }

    /** Of 10000, as each of the four quarters has its tenths. */
    private static int chanceOf(int stay, int x) {
        int chance = 1;
        for (int quarter = 0; quarter < QUARTERS; quarter++) {
            chance *= (stay >> quarter & 1) == 1 ? 10 - x : x;
        }
        return chance;
    }

    private static int told(int above, int below, boolean upper) {
        int divisor = commonDivisor(above, below);
        int number = upper ? above : below;
        return divisor > 1 ? number / divisor : number;
    }

    private static int commonDivisor(int one, int other) {
        int greater = one;
        int rest = other;
        for (int i = 0; i < 64 && rest != 0; i++) {
            int next = greater % rest;
            greater = rest;
            rest = next;
        }
        return greater;
    }

    /** A trial joins, meets or lessens nothing if both are one: the same that a year asks for. */
    private void passYear(int lot) {
        if (lot < 27) {
            trial.does(JOINED + lot / 9, lot % 9 / 3, lot % 3);
        } else if (lot < 30) {
            trial.does(TURNED, 0, lot - 27);
        } else if (lot < 33) {
            trial.does(HALVED, lot - 30, 0);
        } else {
            trial.does(GROWN, lot - 33, 0);
        }
    }

    /** Three pictures: those that live, those of a slot, or those that a doing is tried on. */
    private static final class Album {
        private final long[] pictures = new long[PICTURES];

        long cells(int picture) {
            return isPicture(picture) ? pictures[picture] : 0L;
        }

        void set(int picture, long cells) {
            if (isPicture(picture)) {
                pictures[picture] = cells;
            }
        }

        void copyFrom(Album from) {
            for (int picture = 0; picture < PICTURES; picture++) {
                set(picture, from.cells(picture));
            }
        }

        int area() {
            int area = 0;
            for (int picture = 0; picture < PICTURES; picture++) {
                area += Long.bitCount(cells(picture));
            }
            return area;
        }

        int blackIn(int cell) {
            int havers = 0;
            for (int picture = 0; picture < PICTURES; picture++) {
                havers += Shapes.isBlack(cells(picture), cell) ? 1 : 0;
            }
            return havers;
        }

        /** Does what three figures tell; false: it can not be, or is not so, and nothing is changed. */
        boolean does(int kind, int second, int third) {
            switch (kind) {
                case JOINED:
                case MET:
                case LESS:
                    return combines(kind, second, third);
                case TURNED:
                case FLIPPED:
                    return second == 0 && moves(kind, third);
                case HALVED:
                case GROWN:
                    return scales(kind, second, third);
                case HAS_PARTS:
                    return isPicture(second) && Shapes.parts(cells(second)) >= third;
                case IS_ALIKE:
                    return isPicture(second) && isPicture(third)
                        && Shapes.waysAlike(cells(second), cells(third)) != 0;
                default:
                    return false;
            }
        }

        private boolean combines(int kind, int one, int other) {
            if (!isPicture(one) || !isPicture(other) || one == other) {
                return false;
            }
            set(one, Shapes.combined(kind, cells(one), cells(other)));
            return true;
        }

        private boolean moves(int kind, int picture) {
            if (!isPicture(picture)) {
                return false;
            }
            long before = cells(picture);
            set(picture, kind == TURNED ? Shapes.turned(before) : Shapes.flipped(before));
            return true;
        }

        private boolean scales(int kind, int picture, int quarter) {
            if (!isPicture(picture) || !isQuarter(quarter)) {
                return false;
            }
            long before = cells(picture);
            set(picture, kind == HALVED ? Shapes.halved(before, quarter) : Shapes.grown(before, quarter));
            return true;
        }
    }

    /** The row of acts: which picture each one changed, and how it was before. */
    private static final class Acts {
        private final int[] changed = new int[MOST_ACTS];
        private final long[] before = new long[MOST_ACTS];
        private int size = 0;

        int size() {
            return size;
        }

        void clear() {
            size = 0;
        }

        void add(int picture, long cells) {
            if (size >= MOST_ACTS) {
                forgetFirst();
            }
            if (size >= 0 && size < MOST_ACTS) {
                changed[size] = picture;
                before[size] = cells;
                size++;
            }
        }

        private void forgetFirst() {
            for (int i = 1; i < MOST_ACTS; i++) {
                changed[i - 1] = changed[i];
                before[i - 1] = before[i];
            }
            size = MOST_ACTS - 1;
        }

        int lastPicture() {
            return size > 0 && size <= MOST_ACTS ? changed[size - 1] : NONE;
        }

        long lastBefore() {
            return size > 0 && size <= MOST_ACTS ? before[size - 1] : 0L;
        }

        void dropLast() {
            if (size > 0) {
                size--;
            }
        }
    }

    /** The text, and the picture that it tells as far as it was read. */
    private static final class Text {
        private final int[] letters = new int[MOST_LETTERS];
        private final Walk walk = new Walk();
        private int size = 0;
        private long drawn = 0L;

        int size() {
            return size;
        }

        void clear() {
            size = 0;
        }

        boolean add(int letter) {
            if (size < 0 || size >= MOST_LETTERS) {
                return false;
            }
            letters[size] = letter;
            size++;
            return true;
        }

        /** The picture is drawn on the way, so that what is right needs no second reading. */
        int firstFault() {
            walk.start();
            drawn = 0L;
            for (int place = 0; place < size && place < MOST_LETTERS; place++) {
                if (!reads(letters[place])) {
                    return place;
                }
            }
            return walk.hasEnded() ? NONE : size;
        }

        long drawn() {
            return drawn;
        }

        private boolean reads(int letter) {
            if (walk.hasEnded()) {
                return false;
            }
            if (letter == 'q') {
                return walk.cut();
            }
            if (!Shapes.isLeaf(letter)) {
                return false;
            }
            drawn |= walk.square() & Shapes.pattern(letter);
            walk.pass();
            return true;
        }
    }

    /**
     * A walk over squares in the order of words. Quarters of quarters have their bits of x and y
     * by turns in the cell's place in that order, so no stack of open squares is needed: a square
     * is at its end when the place is a multiple of its size.
     */
    private static final class Walk {
        private int place = 0;
        private int depth = 0;

        void start() {
            place = 0;
            depth = 0;
        }

        boolean hasEnded() {
            return place >= CELLS;
        }

        long square() {
            return Shapes.squareOf(cell(), depth);
        }

        boolean cut() {
            if (depth >= DEEPEST) {
                return false;
            }
            depth++;
            return true;
        }

        void pass() {
            place += sizeAt(depth);
            while (depth > 0 && (place & (sizeAt(depth - 1) - 1)) == 0) {
                depth--;
            }
        }

        private static int sizeAt(int depth) {
            return CELLS >> (2 * depth);
        }

        int leastLength(long cells) {
            start();
            int letters = 0;
            while (letters < MOST_WORD && !hasEnded()) {
                step(cells);
                letters++;
            }
            return letters;
        }

        int leastLetter(long cells, int i) {
            if (i < 0 || i >= MOST_WORD) {
                return NONE;
            }
            start();
            for (int passed = 0; passed < i && !hasEnded(); passed++) {
                step(cells);
            }
            return hasEnded() ? NONE : Shapes.sign(cells, square());
        }

        private void step(long cells) {
            if (Shapes.sign(cells, square()) != 'q' || !cut()) {
                pass();
            }
        }

        private int cell() {
            int x = (place & 1) | (place >> 1 & 2) | (place >> 2 & 4);
            int y = (place >> 1 & 1) | (place >> 2 & 2) | (place >> 3 & 4);
            return WIDTH * y + x;
        }
    }

    /** What was seen of an unknown picture of four leaves. */
    private static final class Sight {
        private static final int[] LEAVES = {'b', 'w', 'g', 's'};

        private final int[] cells = new int[MOST_SEEN];
        private final boolean[] blacks = new boolean[MOST_SEEN];
        private int size = 0;

        int size() {
            return size;
        }

        void clear() {
            size = 0;
        }

        boolean add(int cell, boolean isBlack) {
            if (size < 0 || size >= MOST_SEEN) {
                return false;
            }
            cells[size] = cell;
            blacks[size] = isBlack;
            size++;
            return true;
        }

        /** Quarters are free of one another, so their numbers are multiplied. */
        int fits() {
            int number = 1;
            for (int quarter = 0; quarter < QUARTERS; quarter++) {
                int ofQuarter = 0;
                for (int leaf = 0; leaf < LEAVES.length; leaf++) {
                    ofQuarter += isSo(quarter, LEAVES[leaf]) ? 1 : 0;
                }
                number *= ofQuarter;
            }
            return number;
        }

        int firstFit() {
            int figures = 0;
            for (int quarter = 0; quarter < QUARTERS; quarter++) {
                int figure = firstFigure(quarter);
                if (figure == NONE) {
                    return NONE;
                }
                figures = 10 * figures + figure;
            }
            return figures;
        }

        private int firstFigure(int quarter) {
            for (int leaf = 0; leaf < LEAVES.length; leaf++) {
                if (isSo(quarter, LEAVES[leaf])) {
                    return leaf + 1;
                }
            }
            return NONE;
        }

        private boolean isSo(int quarter, int leaf) {
            for (int i = 0; i < size && i < MOST_SEEN; i++) {
                boolean isHere = Shapes.isBlack(Shapes.quarterCells(quarter), cells[i]);
                if (isHere && Shapes.isBlack(Shapes.pattern(leaf), cells[i]) != blacks[i]) {
                    return false;
                }
            }
            return true;
        }
    }

    /** What can be told of pictures, or made of them, by their cells alone. */
    private static final class Shapes {
        private static final long CHEQUERED = 0xAA55AA55AA55AA55L, STRIPED = 0x00FF00FF00FF00FFL;
        private static final long LEFT_COLUMN = 0x0101010101010101L, RIGHT_COLUMN = LEFT_COLUMN << 7;
        private static final long ROW = 0xFFL, TWO_BY_TWO = 0x0303L;

        /** The lower left square of each depth. */
        private static final long[] CORNERS = {-1L, 0x0F0F0F0FL, 0x0303L, 1L};

        private Shapes() {
        }

        static boolean isBlack(long cells, int cell) {
            return (cells >>> cell & 1L) == 1L;
        }

        private static long bit(int x, int y) {
            return 1L << (WIDTH * y + x);
        }

        static int lowestRow(long cells) {
            return (int) (cells & ROW);
        }

        static boolean isLeaf(int letter) {
            return letter == 'b' || letter == 'w' || letter == 'g' || letter == 's';
        }

        /** What a leaf would tell of the whole: by x and y of the whole, so it fits every square. */
        static long pattern(int leaf) {
            switch (leaf) {
                case 'b':
                    return -1L;
                case 'g':
                    return CHEQUERED;
                case 's':
                    return STRIPED;
                default:
                    return 0L;
            }
        }

        static long squareOf(int cell, int depth) {
            if (depth < 0 || depth > DEEPEST) {
                return 0L;
            }
            int within = (WIDTH >> depth) - 1;
            int corner = cell & ~(WIDTH * within + within);
            return CORNERS[depth] << corner;
        }

        static long quarterCells(int quarter) {
            return CORNERS[1] << quarterCorner(quarter);
        }

        private static int quarterCorner(int quarter) {
            return WIDTH / 2 * (quarter % 2) + WIDTH * WIDTH / 2 * (quarter / 2);
        }

        /** The letter by which the least word tells a square. */
        static int sign(long cells, long square) {
            long inside = cells & square;
            if (inside == square) {
                return 'b';
            }
            if (inside == 0L) {
                return 'w';
            }
            if (inside == (CHEQUERED & square)) {
                return 'g';
            }
            return inside == (STRIPED & square) ? 's' : 'q';
        }

        static int depthAt(long cells, int cell) {
            int depth = 0;
            while (depth < DEEPEST && sign(cells, squareOf(cell, depth)) == 'q') {
                depth++;
            }
            return depth;
        }

        static long combined(int kind, long one, long other) {
            switch (kind) {
                case JOINED:
                    return one | other;
                case MET:
                    return one & other;
                case LESS:
                    return one & ~other;
                default:
                    return one;
            }
        }

        static long turned(long cells) {
            long after = 0L;
            for (int cell = 0; cell < CELLS; cell++) {
                if (isBlack(cells, cell)) {
                    after |= bit(WIDTH - 1 - cell / WIDTH, cell % WIDTH);
                }
            }
            return after;
        }

        static long flipped(long cells) {
            long after = 0L;
            for (int cell = 0; cell < CELLS; cell++) {
                if (isBlack(cells, cell)) {
                    after |= bit(WIDTH - 1 - cell % WIDTH, cell / WIDTH);
                }
            }
            return after;
        }

        static long halved(long cells, int quarter) {
            long after = 0L;
            for (int y = 0; y < WIDTH / 2; y++) {
                for (int x = 0; x < WIDTH / 2; x++) {
                    if (Long.bitCount(cells & fourCells(x, y)) >= 2) {
                        after |= bit(x, y) << quarterCorner(quarter);
                    }
                }
            }
            return after;
        }

        static long grown(long cells, int quarter) {
            long after = 0L;
            for (int y = 0; y < WIDTH / 2; y++) {
                for (int x = 0; x < WIDTH / 2; x++) {
                    if (isBlack(cells, quarterCorner(quarter) + WIDTH * y + x)) {
                        after |= fourCells(x, y);
                    }
                }
            }
            return after;
        }

        /** The four cells of the whole that the cell at x, y of a quarter stands for. */
        private static long fourCells(int x, int y) {
            return TWO_BY_TWO << (2 * WIDTH * y + 2 * x);
        }

        static long byWay(long cells, int way) {
            long after = way < 4 ? cells : flipped(cells);
            for (int turns = 0; turns < way % 4; turns++) {
                after = turned(after);
            }
            return after;
        }

        static int unlike(long one, long other, int way) {
            return Long.bitCount(byWay(one, way) ^ other);
        }

        static int waysAlike(long one, long other) {
            int ways = 0;
            for (int way = 0; way < WAYS; way++) {
                if (unlike(one, other, way) == 0) {
                    ways |= 1 << way;
                }
            }
            return ways;
        }

        static int nearestWay(long one, long other) {
            int nearest = 0;
            int fewest = unlike(one, other, 0);
            for (int way = 1; way < WAYS; way++) {
                int number = unlike(one, other, way);
                if (number < fewest) {
                    fewest = number;
                    nearest = way;
                }
            }
            return nearest;
        }

        static int parts(long cells) {
            long rest = cells;
            int parts = 0;
            while (parts < CELLS && rest != 0L) {
                rest &= ~partOf(rest, rest & -rest);
                parts++;
            }
            return parts;
        }

        /** A part of 64 cells at most is reached from one of them in fewer steps than that. */
        private static long partOf(long cells, long start) {
            long part = start;
            for (int step = 0; step < CELLS; step++) {
                long wider = cells
                    & (part | leftOf(part) | rightOf(part) | part >>> WIDTH | part << WIDTH);
                if (wider == part) {
                    return part;
                }
                part = wider;
            }
            return part;
        }

        /** The cells at the left of these; those of the left column have none. */
        private static long leftOf(long cells) {
            return (cells & ~LEFT_COLUMN) >>> 1;
        }

        private static long rightOf(long cells) {
            return (cells & ~RIGHT_COLUMN) << 1;
        }

        static int rim(long cells) {
            return Long.bitCount(cells & ~leftOf(cells)) + Long.bitCount(cells & ~rightOf(cells))
                + Long.bitCount(cells & ~(cells >>> WIDTH)) + Long.bitCount(cells & ~(cells << WIDTH));
        }

        /** Greater squares are taken out first, so that no smaller one in them is counted. */
        static int blocks(long cells) {
            long rest = cells;
            int blocks = 0;
            for (int depth = 0; depth <= DEEPEST; depth++) {
                for (int cell = 0; cell < CELLS; cell++) {
                    long square = squareOf(cell, depth);
                    if ((rest & square) == square) {
                        rest &= ~square;
                        blocks++;
                    }
                }
            }
            return blocks;
        }
    }
}
