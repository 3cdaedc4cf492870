import java.math.BigInteger;

/**
 * A test for each sentence of the document that names a boundary: the call at it, the call just
 * beyond it, and that what is refused changes nothing. Each method quotes its sentence.
 */
public final class EdgeTest {
    private static final int UNKNOWN = -1, OUTSIDE = -2, STATE = -3, FULL = -4, NONE = -9;
    private static final int LOWEST = Integer.MIN_VALUE, HIGHEST = Integer.MAX_VALUE;
    private static final int NEW = 0, BUSY = 1, STUFFED = 2, STATES = 3;
    private static int wrong = 0;

    private interface Call {
        long on(QuarterWords q);
    }

    private interface CallWith {
        long on(QuarterWords q, int number);
    }

    // ---- what the tests are made of

    private static void due(String what, long got, long want) {
        if (got != want) {
            wrong++;
            System.out.println(what + " answered " + got + ", due is " + want);
        }
    }

    private static void holds(String what, boolean is) {
        if (!is) {
            wrong++;
            System.out.println("not so: " + what);
        }
    }

    private static QuarterWords text(QuarterWords q, String word) {
        q.wipe();
        for (int i = 0; i < word.length(); i++) {
            q.write(word.charAt(i));
        }
        return q;
    }

    private static QuarterWords with(String... words) {
        QuarterWords q = new QuarterWords();
        for (int picture = 0; picture < words.length; picture++) {
            holds("put of " + words[picture], text(q, words[picture]).put(picture) >= 0);
        }
        q.wipe();
        return q;
    }

    private static QuarterWords cells(int... cells) {
        long black = 0L;
        for (int cell : cells) {
            black |= 1L << cell;
        }
        return drawn(black);
    }

    /** Picture 0 is so, in two halves, as a text may be too short for both; the others are white. */
    private static QuarterWords drawn(long black) {
        QuarterWords q = text(new QuarterWords(), word(black & 0xFFFFFFFFL, 0, 0, 8));
        q.put(0);
        text(q, word(black & ~0xFFFFFFFFL, 0, 0, 8)).put(2);
        q.join(0, 2);
        text(q, "w").put(2);
        q.wipe();
        due("drawn", q.black(0), black);
        return q;
    }

    private static String word(long black, int x, int y, int width) {
        long row = (1L << width) - 1L;
        long square = 0L;
        for (int i = 0; i < width; i++) {
            square |= row << 8 * (y + i) + x;
        }
        if ((black & square) == 0L) {
            return "w";
        }
        if ((black & square) == square) {
            return "b";
        }
        int half = width / 2;
        return "q" + word(black, x, y, half) + word(black, x + half, y, half)
            + word(black, x, y + half, half) + word(black, x + half, y + half, half);
    }

    private static String cell(int cell) {
        return word(1L << cell, 0, 0, 8);
    }

    /** New; with all in use; with all that has a bound at its bound. */
    private static QuarterWords made(int state) {
        QuarterWords q = new QuarterWords();
        if (state == NEW) {
            return q;
        }
        text(q, "qbwgs").put(0);
        text(q, "qwqbwwbwb").put(1);
        q.keep(0);
        text(q, "g").put(2);
        q.seed(77);
        q.see(0, 1);
        q.see(9, 0);
        if (state == BUSY) {
            return text(q, "qwws" + "qbbbg");
        }
        q.keep(1);
        for (int i = 0; i < 15; i++) {
            q.turn(i * i % 3);
        }
        for (int i = 0; i < 6; i++) {
            q.see(7 * i, i % 2);
        }
        return text(q, "qb".repeat(32));
    }

    /** All that an object would ever tell; it is used up by that. */
    private static String told(QuarterWords q) {
        StringBuilder s = new StringBuilder();
        pictures(s, q);
        for (int what = 0; what < 6; what++) {
            s.append(q.count(what)).append(' ');
        }
        s.append(q.fault()).append(' ').append(q.leaves(0)).append(' ').append(q.leaves(1));
        s.append(" years ").append(q.years(30)).append(' ').append(q.seed(0)).append(" undone ");
        for (int left = q.undo(); left >= 0; left = q.undo()) {
            s.append(left).append(' ');
            pictures(s, q);
        }
        s.append("put ").append(q.put(2)).append(' ');
        pictures(s, q);
        for (int slot = 0; slot < 2; slot++) {
            s.append("again ").append(q.again(slot)).append(' ');
            pictures(s, q);
        }
        s.append(q.wipe()).append(' ').append(q.unsee());
        return s.toString();
    }

    private static void pictures(StringBuilder s, QuarterWords q) {
        for (int picture = 0; picture < 3; picture++) {
            s.append(Long.toHexString(q.black(picture))).append(' ');
        }
    }

    /** The call answers so, and its object tells what a twin tells on which it was not called. */
    private static void unchanged(String what, int state, Call call, long answer) {
        QuarterWords q = made(state);
        due(what, call.on(q), answer);
        String twin = told(made(state));
        String got = told(q);
        holds(what + " changes nothing: " + twin + " became " + got, twin.equals(got));
    }

    private static void refused(String what, Call call, long refusal) {
        for (int state = 0; state < STATES; state++) {
            unchanged(what + " in state " + state, state, call, refusal);
        }
    }

    /** What is between the bounds is not refused so; what is just beyond them, and far, is. */
    private static void bounds(String what, int least, int most, int refusal, CallWith call) {
        for (int number = least; number <= most; number++) {
            holds(what + " of " + number + " is taken", call.on(made(BUSY), number) != refusal);
        }
        int[] beyond = {least - 1, most + 1, LOWEST, HIGHEST};
        for (int number : beyond) {
            refused(what + " of " + number, q -> call.on(q, number), refusal);
        }
    }

    // ---- refusals

    /** "UNKNOWN (there is no such PICTURE (0 to 2) ..." */
    private static void picturesAreThree() {
        bounds("put", 0, 2, UNKNOWN, (q, p) -> q.put(p));
        bounds("join's one", 0, 2, UNKNOWN, (q, p) -> q.join(p, p == 2 ? 0 : 2));
        bounds("join's other", 0, 2, UNKNOWN, (q, p) -> q.join(p == 2 ? 0 : 2, p));
        bounds("meet's one", 0, 2, UNKNOWN, (q, p) -> q.meet(p, p == 2 ? 0 : 2));
        bounds("meet's other", 0, 2, UNKNOWN, (q, p) -> q.meet(p == 2 ? 0 : 2, p));
        bounds("less's one", 0, 2, UNKNOWN, (q, p) -> q.less(p, p == 2 ? 0 : 2));
        bounds("less's other", 0, 2, UNKNOWN, (q, p) -> q.less(p == 2 ? 0 : 2, p));
        bounds("turn", 0, 2, UNKNOWN, (q, p) -> q.turn(p));
        bounds("flip", 0, 2, UNKNOWN, (q, p) -> q.flip(p));
        bounds("halve", 0, 2, UNKNOWN, (q, p) -> q.halve(p, 3));
        bounds("grow", 0, 2, UNKNOWN, (q, p) -> q.grow(p, 3));
        bounds("look", 0, 2, UNKNOWN, (q, p) -> q.look(p, 1));
        bounds("letter", 0, 2, UNKNOWN, (q, p) -> q.letter(p, 0));
        bounds("at", 0, 2, UNKNOWN, (q, p) -> q.at(p, 63, 0));
        bounds("alike's one", 0, 2, UNKNOWN, (q, p) -> q.alike(p, 0));
        bounds("alike's other", 0, 2, UNKNOWN, (q, p) -> q.alike(0, p));
        bounds("near's one", 0, 2, UNKNOWN, (q, p) -> q.near(p, 0, 0));
        bounds("near's other", 0, 2, UNKNOWN, (q, p) -> q.near(0, p, 1));
        bounds("share above", 0, 2, UNKNOWN, (q, p) -> q.share(p, true));
        bounds("share below", 0, 2, UNKNOWN, (q, p) -> q.share(p, false));
        bounds("rests' one", 0, 2, UNKNOWN, (q, p) -> q.rests(p, p == 2 ? 0 : 2, 0));
        bounds("rests' other", 0, 2, UNKNOWN, (q, p) -> q.rests(p == 2 ? 0 : 2, p, 1));
        bounds("fades above", 0, 2, UNKNOWN, (q, p) -> q.fades(p, 64, 10, true));
        bounds("fades below", 0, 2, UNKNOWN, (q, p) -> q.fades(p, 0, 0, false));
    }

    /** "UNKNOWN tells 0" of black, and a picture of no black cell tells 0 too. */
    private static void blackOfUnknownIsNothing() {
        int[] beyond = {-1, 3, LOWEST, HIGHEST};
        for (int picture : beyond) {
            refused("black of " + picture, q -> q.black(picture), 0L);
            due("black of " + picture, with("b", "b", "b").black(picture), 0L);
        }
        due("black of 0", with("b").black(0), -1L);
        due("black of 2", with("w", "w", "b").black(2), -1L);
        due("black of white", with("b", "w", "b").black(1), 0L);
    }

    /** "... CELL (0 to 63) ..." */
    private static void cellsAreSixtyFour() {
        bounds("at", 0, 63, UNKNOWN, (q, cell) -> q.at(1, cell, 1));
        bounds("see", 0, 63, UNKNOWN, (q, cell) -> q.see(cell, 0));
    }

    /** "... QUARTER (0 to 3) ..." */
    private static void quartersAreFour() {
        bounds("halve", 0, 3, UNKNOWN, (q, quarter) -> q.halve(2, quarter));
        bounds("grow", 0, 3, UNKNOWN, (q, quarter) -> q.grow(2, quarter));
    }

    /** "... SLOT)": "SLOTS 0 to 1". */
    private static void slotsAreTwo() {
        bounds("keep", 0, 1, UNKNOWN, (q, slot) -> q.keep(slot));
        bounds("again", 0, 1, UNKNOWN, (q, slot) -> q.again(slot));
    }

    /** "REFUSALS, of several the first that a call names". */
    private static void theFirstRefusalIsTold() {
        unchanged("write outside, full", STUFFED, q -> q.write(256), OUTSIDE);
        unchanged("write outside, full", STUFFED, q -> q.write(-1), OUTSIDE);
        refused("put of unknown, a fault", q -> q.put(3), UNKNOWN);
        refused("join of unknown, both one", q -> q.join(3, 3), UNKNOWN);
        refused("meet of unknown, both one", q -> q.meet(-1, -1), UNKNOWN);
        refused("less of unknown, both one", q -> q.less(3, 3), UNKNOWN);
        refused("look of unknown, outside", q -> q.look(3, 5), UNKNOWN);
        refused("letter of unknown, none such", q -> q.letter(3, -1), UNKNOWN);
        refused("at unknown picture, outside", q -> q.at(3, 0, 3), UNKNOWN);
        refused("at unknown cell, outside", q -> q.at(0, 64, 3), UNKNOWN);
        refused("near unknown one, outside", q -> q.near(3, 0, 2), UNKNOWN);
        refused("near unknown other, outside", q -> q.near(0, 3, 2), UNKNOWN);
        refused("see unknown, outside", q -> q.see(64, 2), UNKNOWN);
        unchanged("see unknown, full", STUFFED, q -> q.see(64, 1), UNKNOWN);
        unchanged("see outside, full", STUFFED, q -> q.see(63, 2), OUTSIDE);
        refused("rests of unknown, both one", q -> q.rests(3, 3, 0), UNKNOWN);
        refused("rests of unknown, outside", q -> q.rests(0, 3, 2), UNKNOWN);
        refused("fades of unknown, v outside", q -> q.fades(3, 65, 0, true), UNKNOWN);
        refused("fades of unknown, x outside", q -> q.fades(3, 0, 11, false), UNKNOWN);
        unchanged("again of unknown, none kept", NEW, q -> q.again(2), UNKNOWN);
    }

    /** "NONE is -9." and the other constants. */
    private static void constants() {
        due("UNKNOWN", QuarterWords.UNKNOWN, -1);
        due("OUTSIDE", QuarterWords.OUTSIDE, -2);
        due("STATE", QuarterWords.STATE, -3);
        due("FULL", QuarterWords.FULL, -4);
        due("NONE", QuarterWords.NONE, -9);
    }

    /** "FRACTIONS are told above, below (1 and more), in least terms". */
    private static void fractionsAreInLeastTerms() {
        QuarterWords white = new QuarterWords();
        share(white, 0, 0, 1);
        fades(white, 1, 5, 0, 1);
        fades(white, 0, 5, 1, 1);
        QuarterWords q = three();
        for (int picture = 0; picture < 3; picture++) {
            leastTerms(q.share(picture, true), q.share(picture, false), 6);
            for (int v = 0; v <= 64; v++) {
                int x = v % 11;
                leastTerms(q.fades(picture, v, x, true), q.fades(picture, v, x, false), 10000);
            }
        }
    }

    private static void leastTerms(int above, int below, int whole) {
        BigInteger divisor = BigInteger.valueOf(above).gcd(BigInteger.valueOf(below));
        holds(above + " / " + below + " is in least terms", divisor.equals(BigInteger.ONE));
        holds(below + " is 1 and more, and goes into " + whole, below >= 1 && whole % below == 0);
    }

    /** "refusals of them are told likewise": above as below. */
    private static void fractionsRefuseAlike() {
        boolean[] ways = {true, false};
        for (boolean upper : ways) {
            refused("share", q -> q.share(3, upper), UNKNOWN);
            refused("share", q -> q.share(-1, upper), UNKNOWN);
            refused("fades", q -> q.fades(3, 0, 0, upper), UNKNOWN);
            refused("fades", q -> q.fades(0, 65, 0, upper), OUTSIDE);
            refused("fades", q -> q.fades(0, -1, 0, upper), OUTSIDE);
            refused("fades", q -> q.fades(0, 0, 11, upper), OUTSIDE);
            refused("fades", q -> q.fades(0, 0, -1, upper), OUTSIDE);
        }
    }

    // ---- 1: pictures, words, acts

    /** "PICTURES are three: 0, 1, 2; all white at first." "Three white pictures." */
    private static void allIsWhiteAtFirst() {
        QuarterWords q = new QuarterWords();
        for (int picture = 0; picture < 3; picture++) {
            due("black at first", q.black(picture), 0L);
            due("area at first", q.look(picture, 0), 0);
            due("letters at first", q.look(picture, 1), 1);
            due("letter at first", q.letter(picture, 0), 'w');
        }
        for (int what = 0; what <= 5; what++) {
            due("count at first", q.count(what), 0);
        }
    }

    /** "CELL 8 y + x is at x, y (0 to 7 each; y goes up)". */
    private static void cellsAreAtTheirPlaces() {
        for (int cell = 0; cell < 64; cell++) {
            QuarterWords q = with(cell(cell));
            due("black cell " + cell, q.black(0), 1L << cell);
            for (int at = 0; at < 64; at++) {
                due("at " + at + " of " + cell, q.at(0, at, 0), at == cell ? 1 : 0);
            }
        }
    }

    /** "QUARTERS of a SQUARE are 0 (its lower left) ... each half as wide, half as high." */
    private static void quartersAreAtTheirPlaces() {
        String[] words = {"qbwww", "qwbww", "qwwbw", "qwwwb"};
        int[] xs = {0, 4, 0, 4};
        int[] ys = {0, 0, 4, 4};
        for (int quarter = 0; quarter < 4; quarter++) {
            String word = words[quarter];
            int x = xs[quarter];
            int y = ys[quarter];
            due(word, with(word).black(0), 0x0F0F0F0FL << 8 * y + x);
            due(word, with("q" + word + "www").black(0), 0x0303L << 8 * (y / 2) + x / 2);
            due(word, with("qwww" + word).black(0), 0x0303L << 8 * (4 + y / 2) + 4 + x / 2);
            due(word, with("qq" + word + "wwwwww").black(0), 1L << 8 * (y / 4) + x / 4);
            due(word, with("qwwwqwww" + word).black(0), 1L << 8 * (6 + y / 4) + 6 + x / 4);
        }
    }

    /** "THE TEXT is letters (64 at most)." "FULL: there are 64." */
    private static void textIsFullAtSixtyFour() {
        QuarterWords q = new QuarterWords();
        for (int length = 1; length <= 64; length++) {
            due("write", q.write('q'), length);
            due("letters", q.count(0), length);
        }
        due("write the 65th", q.write('q'), FULL);
        due("letters", q.count(0), 64);
        due("wipe", q.wipe(), 64);
        due("write behind a wipe", q.write('b'), 1);
        unchanged("write when full", STUFFED, full -> full.write('b'), FULL);
    }

    /** "A letter (0 to 255) comes behind THE TEXT". */
    private static void lettersAreBytes() {
        QuarterWords q = new QuarterWords();
        due("write 0", q.write(0), 1);
        due("write 255", q.write(255), 2);
        bounds("write", 0, 255, OUTSIDE, (busy, letter) -> busy.write(letter));
        // 256 more than a right letter is none
        refused("write b and 256", busy -> busy.write('b' + 256), OUTSIDE);
    }

    /** "THE TEXT is empty: how long it was." */
    private static void wipeOfNoneAndOfAll() {
        QuarterWords q = new QuarterWords();
        due("wipe of nothing", q.wipe(), 0);
        due("wipe of one", text(q, "b").wipe(), 1);
        due("wipe of 64", text(q, "b".repeat(64)).wipe(), 64);
        due("wipe again", q.wipe(), 0);
        due("fault behind wipe", q.fault(), 0);
        due("put behind wipe", q.put(0), STATE);
    }

    /** "b: all its CELLS are black; w: all white; g: ... s: ...", in squares of each width. */
    private static void leavesOfEachWidth() {
        String[] heads = {"", "q", "qq", "qqq"};
        String[] tails = {"", "www", "wwwwww", "wwwwwwwww"};
        long[] squares = {-1L, 0x0F0F0F0FL, 0x0303L, 1L};
        long even = 0xAA55AA55AA55AA55L;
        long rows = 0x00FF00FF00FF00FFL;
        for (int depth = 0; depth < 4; depth++) {
            due("b", with(heads[depth] + "b" + tails[depth]).black(0), squares[depth]);
            due("w", with(heads[depth] + "w" + tails[depth]).black(0), 0L);
            due("g", with(heads[depth] + "g" + tails[depth]).black(0), squares[depth] & even);
            due("s", with(heads[depth] + "s" + tails[depth]).black(0), squares[depth] & rows);
        }
        // the cell at 1, 0 is white by g and black by s; the one at 0, 1 is white by both
        due("g at 1, 0", with("qqqwgwwwwwwww").black(0), 0L);
        due("s at 1, 0", with("qqqwswwwwwwww").black(0), 2L);
        due("g at 0, 1", with("qqqwwgwwwwwww").black(0), 0L);
        due("s at 0, 1", with("qqqwwswwwwwww").black(0), 0L);
        due("g at 1, 1", with("qqqwwwgwwwwww").black(0), 1L << 9);
        due("s at 1, 1", with("qqqwwwswwwwww").black(0), 0L);
    }

    private static void fault(String word, int want) {
        due("fault of " + word, text(new QuarterWords(), word).fault(), want);
    }

    private static boolean isIn(String letters, int letter) {
        return letters.indexOf(letter) >= 0;
    }

    /** "the place of the first letter by which THE TEXT can be no WORD", of all letters. */
    private static void faultOfEachLetter() {
        for (int letter = 0; letter < 256; letter++) {
            String sign = String.valueOf((char) letter);
            boolean leaf = isIn("bwgs", letter);
            fault(sign, leaf ? NONE : letter == 'q' ? 1 : 0);
            fault("q" + sign, leaf || letter == 'q' ? 2 : 1);
            fault("qwww" + sign, leaf ? NONE : letter == 'q' ? 5 : 4);
            fault("b" + sign, 1);
            fault(sign + "b", letter == 'q' ? 2 : leaf ? 1 : 0);
        }
    }

    /** "or, if it is more than 1 wide, q": of 2 wide q may be, of 1 wide none. */
    private static void noCutOfOneCell() {
        fault("qqq", 3);
        fault("qqqq", 3);
        fault("qqqqbbbb", 3);
        fault("qqqbbbq", 6);
        fault("qqqbbbb", 7);
        fault("qqqbbbbq", 8);
        fault("qbbbqbbbqbbbq", 12);
        fault("qbbbqbbbqbbbb", NONE);
    }

    /** "A TEXT is right, if it is just one WORD of the whole." */
    private static void justOneWord() {
        fault("", 0);
        fault("b", NONE);
        fault("bw", 1);
        fault("qbwgs", NONE);
        fault("qbwgsb", 5);
        fault("qbwgsqbwgs", 5);
        due("put of none", text(new QuarterWords(), "").put(0), STATE);
        due("put of two", text(new QuarterWords(), "bb").put(0), STATE);
        due("put of one", text(new QuarterWords(), "b").put(0), 64);
    }

    /** "its length, if it is only not at its end; NONE: none." */
    private static void faultAtTheEnd() {
        String word = "qqqbwgsbwqgsbwbwg";
        for (int length = 0; length < word.length(); length++) {
            QuarterWords q = text(new QuarterWords(), word.substring(0, length));
            due("fault of a part", q.fault(), length);
            due("put of a part", q.put(0), STATE);
            due("nothing is put", q.count(4), 0);
        }
        fault(word, NONE);
        fault(word + "b", word.length());
        for (int place = 0; place < word.length(); place++) {
            fault(word.substring(0, place) + "x" + word.substring(place + 1), place);
        }
    }

    /** "whatever came behind it (its length set aside)": 61 letters are right, 65 are too many to write. */
    private static void faultSetsLengthAside() {
        String cut = "qqbbbbqbbbbqbbbbqbbbb";
        String sixtyOne = "q" + cut + cut + "qqbbbbqbbbwbw" + "qwwww";
        due("so many letters", sixtyOne.length(), 61);
        fault(sixtyOne, NONE);
        due("put of 61 letters", text(new QuarterWords(), sixtyOne).put(0), 16 + 16 + 4 + 3 + 4);
        String sixtyFive = "q" + cut + cut + "qqbbbbqbbbwbqbbbb" + "qwwww";
        due("so many letters", sixtyFive.length(), 65);
        QuarterWords q = text(new QuarterWords(), sixtyFive);
        due("letters of it", q.count(0), 64);
        due("fault of its first 64", q.fault(), 64);
        due("put of its first 64", q.put(0), STATE);
        due("its last letter", q.write('w'), FULL);
        fault("q" + cut + cut + cut, 64);
        fault("q" + cut + cut + "qqbbbbqbbbbqbbbbqbbbx", 63);
    }

    /** "PUT (THE TEXT stays): AREA." "STATE: a FAULT." */
    private static void putAtItsEdges() {
        QuarterWords q = text(new QuarterWords(), "b");
        due("put of black", q.put(0), 64);
        due("the text stays", q.count(0), 1);
        due("put once more", q.put(2), 64);
        due("put of white", text(q, "w").put(0), 0);
        due("put of one cell", text(q, cell(63)).put(0), 1);
        unchanged("put of nothing", NEW, none -> none.put(0), STATE);
        unchanged("put of a text too short", BUSY, part -> {
            part.wipe();
            part.write('q');
            long got = part.put(1);
            text(part, "qwwsqbbbg");
            return got;
        }, STATE);
        unchanged("put of a text too long", STUFFED, part -> part.put(1), STATE);
    }

    /** "JOINED ... MET: where both are; LESS: where it is and the other one is not", at none and all. */
    private static void pairsOfNoneAndAll() {
        due("white joined with white", with("w", "w").join(0, 1), 0);
        due("white joined with black", with("w", "b").join(0, 1), 64);
        due("black joined with white", with("b", "w").join(0, 1), 64);
        due("black met with black", with("b", "b").meet(0, 1), 64);
        due("black met with white", with("b", "w").meet(0, 1), 0);
        due("white met with black", with("w", "b").meet(0, 1), 0);
        due("black less white", with("b", "w").less(0, 1), 64);
        due("black less black", with("b", "b").less(0, 1), 0);
        due("white less black", with("w", "b").less(0, 1), 0);
        due("a chequer joined with what it lacks", lacks().join(0, 1), 64);
        due("a chequer met with what it lacks", lacks().meet(0, 1), 0);
        due("a chequer less what it lacks", lacks().less(0, 1), 32);
    }

    private static QuarterWords lacks() {
        QuarterWords q = with("g", "b");
        q.less(1, 0);
        return q;
    }

    /** "UNKNOWN: both; OUTSIDE: both are one." */
    private static void bothAreOne() {
        for (int one = 0; one < 3; one++) {
            int p = one;
            refused("join with itself", q -> q.join(p, p), OUTSIDE);
            refused("meet with itself", q -> q.meet(p, p), OUTSIDE);
            refused("less itself", q -> q.less(p, p), OUTSIDE);
            for (int other = 0; other < 3; other++) {
                if (one != other) {
                    holds("join of two", made(BUSY).join(one, other) >= 0);
                    holds("meet of two", made(BUSY).meet(one, other) >= 0);
                    holds("less of two", made(BUSY).less(one, other) >= 0);
                }
            }
        }
    }

    /** "TURNED: what was at x, y is at 7 less y, x": corners, and all cells four times round. */
    private static void turnsOfCorners() {
        int[] round = {0, 7, 63, 56, 0};
        int[] rows = {128, 0, 0, 1};
        QuarterWords q = with(cell(0));
        for (int i = 0; i < 4; i++) {
            due("turn of a corner", q.turn(0), rows[i]);
            due("turned corner", q.black(0), 1L << round[i + 1]);
        }
        for (int cell = 0; cell < 64; cell++) {
            q = with(cell(cell));
            int to = 8 * (cell % 8) + 7 - cell / 8;
            due("turn", q.turn(0), to < 8 ? 1 << to : 0);
            due("turned " + cell, q.black(0), 1L << to);
        }
        due("turn of white", with("w").turn(0), 0);
        due("turn of black", with("b").turn(0), 255);
    }

    /** "FLIPPED: what was at x, y is at 7 less x, y." */
    private static void flipsOfCorners() {
        for (int cell = 0; cell < 64; cell++) {
            QuarterWords q = with(cell(cell));
            int to = 8 * (cell / 8) + 7 - cell % 8;
            due("flip", q.flip(0), to < 8 ? 1 << to : 0);
            due("flipped " + cell, q.black(0), 1L << to);
            due("flip back", q.flip(0), cell < 8 ? 1 << cell : 0);
        }
        due("flip of white", with("w").flip(0), 0);
        due("flip of black", with("b").flip(0), 255);
    }

    private static String fourCells(int pattern) {
        StringBuilder s = new StringBuilder("q");
        for (int i = 0; i < 4; i++) {
            s.append((pattern >> i & 1) == 1 ? 'b' : 'w');
        }
        return s.toString();
    }

    /** "of whose four CELLS two or more were black; all others are white." */
    private static void halvesOfTwoOrMore() {
        for (int pattern = 0; pattern < 16; pattern++) {
            int black = Integer.bitCount(pattern) >= 2 ? 1 : 0;
            for (int quarter = 0; quarter < 4; quarter++) {
                long corner = 1L << 4 * (quarter % 2) + 32 * (quarter / 2);
                QuarterWords first = with("qq" + fourCells(pattern) + "wwwwww");
                due("halve of " + pattern, first.halve(0, quarter), black);
                due("halved " + pattern, first.black(0), black * corner);
                QuarterWords last = with("qwwwqwww" + fourCells(pattern));
                due("halve of " + pattern, last.halve(0, quarter), black);
                due("halved " + pattern, last.black(0), black * corner << 27);
            }
        }
        due("halve of white", with("w").halve(0, 0), 0);
        due("halve of black", with("b").halve(0, 3), 16);
        QuarterWords q = with("b");
        q.halve(0, 3);
        due("all others are white", q.black(0), 0xF0F0F0F000000000L);
    }

    /** "GROWN from a QUARTER: each CELL of that QUARTER is as the four CELLS then that it becomes". */
    private static void growsOfEachCell() {
        for (int cell = 0; cell < 64; cell++) {
            int home = cell % 8 / 4 + 2 * (cell / 32);
            for (int quarter = 0; quarter < 4; quarter++) {
                QuarterWords q = with(cell(cell));
                long four = 0x0303L << 16 * (cell / 8 % 4) + 2 * (cell % 4);
                due("grow of " + cell, q.grow(0, quarter), quarter == home ? 4 : 0);
                due("grown " + cell, q.black(0), quarter == home ? four : 0L);
            }
        }
        due("grow of white", with("w").grow(0, 3), 0);
        due("grow of black", with("b").grow(0, 3), 64);
    }

    /** "ACTS (PUT, JOINED, MET, LESS, TURNED, FLIPPED, HALVED, GROWN) are a row". */
    private static void eightKindsOfActs() {
        QuarterWords q = text(new QuarterWords(), "g");
        q.put(0);
        due("put is one", q.count(4), 1);
        q.join(1, 0);
        due("join is one", q.count(4), 2);
        q.meet(0, 1);
        due("meet is one", q.count(4), 3);
        q.less(0, 2);
        due("less is one", q.count(4), 4);
        q.turn(0);
        due("turn is one", q.count(4), 5);
        q.flip(0);
        due("flip is one", q.count(4), 6);
        q.halve(0, 0);
        due("halve is one", q.count(4), 7);
        q.grow(0, 0);
        due("grow is one", q.count(4), 8);
        q.keep(0);
        q.years(30);
        q.judge(1, 400);
        q.write('b');
        q.see(0, 0);
        due("all else is none", q.count(4), 8);
    }

    /** "14 at most; of more the first one is forgotten". */
    private static void fourteenActs() {
        for (int acts = 12; acts <= 17; acts++) {
            QuarterWords q = new QuarterWords();
            long[] black = new long[acts + 1];
            for (int i = 0; i < acts; i++) {
                text(q, cell(i)).put(1);
                black[i + 1] = 1L << i;
                due("acts in the row", q.count(4), Math.min(i + 1, 14));
            }
            due("black", q.black(1), black[acts]);
            for (int i = 0; i < Math.min(acts, 14); i++) {
                due("undo", q.undo(), Math.min(acts, 14) - 1 - i);
                due("undone", q.black(1), black[acts - 1 - i]);
            }
            due("undo of more", q.undo(), STATE);
            due("what is forgotten stays", q.black(1), black[Math.max(acts - 14, 0)]);
        }
    }

    /** Of acts on pictures by turns, too, each one that is undone is the last of all that are left. */
    private static void fourteenActsByTurns() {
        QuarterWords q = new QuarterWords();
        int[] turns = {0, 1, 2, 2, 0, 1, 0, 0, 2, 1, 1, 0, 2, 0, 1, 2, 2, 1, 0, 1};
        long[][] before = new long[20][3];
        for (int i = 0; i < 20; i++) {
            for (int picture = 0; picture < 3; picture++) {
                before[i][picture] = q.black(picture);
            }
            text(q, cell(i)).put(turns[i]);
        }
        for (int i = 19; i >= 6; i--) {
            due("undo", q.undo(), i - 6);
            for (int picture = 0; picture < 3; picture++) {
                due("undone " + i, q.black(picture), before[i][picture]);
            }
        }
        due("undo of what is forgotten", q.undo(), STATE);
    }

    /** "the last one can be undone." "STATE: there is none." */
    private static void undoOfNone() {
        unchanged("undo of none", NEW, q -> q.undo(), STATE);
        QuarterWords q = with("b");
        due("undo of one", q.undo(), 0);
        due("undone", q.black(0), 0L);
        due("undo of none", q.undo(), STATE);
        due("nothing is undone", q.count(1), 0);
        q.flip(2);
        due("undo of an act behind", q.undo(), 0);
        // what is undone makes room in the row
        for (int i = 0; i < 14; i++) {
            q.turn(i % 3);
        }
        q.undo();
        q.turn(0);
        due("fourteen again", q.count(4), 14);
    }

    // ---- 2: looks

    /** "AREA: how many CELLS are black." */
    private static void areaOfNoneAndAll() {
        due("area of white", with("w").look(0, 0), 0);
        due("area of the first cell", with(cell(0)).look(0, 0), 1);
        due("area of the last cell", with(cell(63)).look(0, 0), 1);
        due("area of black", with("b").look(0, 0), 64);
        due("area of all but the last", all(63).look(0, 0), 63);
    }

    /** All black but for one cell. */
    private static QuarterWords all(int but) {
        QuarterWords q = with("b", cell(but));
        q.less(0, 1);
        return q;
    }

    /** "of a SQUARE the first of b, w, g, s that tells it as it is; if none does, q", of all 2 by 2. */
    private static void leastOfFourCells() {
        String[] least = new String[16];
        for (int pattern = 0; pattern < 16; pattern++) {
            least[pattern] = fourCells(pattern);
        }
        least[15] = "b";
        least[0] = "w";
        least[9] = "g";
        least[3] = "s";
        for (int pattern = 1; pattern < 16; pattern++) {
            String word = "qwwqw" + least[pattern] + "www";
            QuarterWords q = with("qwwqw" + fourCells(pattern) + "www");
            due("area of pattern " + pattern, q.look(0, 0), Integer.bitCount(pattern));
            least(q, word);
        }
    }

    private static void least(QuarterWords q, String want) {
        due("letters of " + want, q.look(0, 1), want.length());
        for (int i = 0; i < want.length(); i++) {
            due("letter " + i + " of " + want, q.letter(0, i), want.charAt(i));
        }
        due("letter behind " + want, q.letter(0, want.length()), NONE);
        due("letter ahead of " + want, q.letter(0, -1), NONE);
        due("letter far behind " + want, q.letter(0, HIGHEST), NONE);
        due("letter far ahead of " + want, q.letter(0, LOWEST), NONE);
        due("letters once more", q.look(0, 1), want.length());
        due("letters at once again", q.look(0, 1), want.length());
        due("first letter behind them", q.letter(0, 0), want.charAt(0));
    }

    /** "The i-th letter (from 0) of LEAST; NONE: there is none such." */
    private static void letterAtItsEdges() {
        least(with("w"), "w");
        least(with("b"), "b");
        least(with("g"), "g");
        least(with("s"), "s");
        least(with("qbwgs"), "qbwgs");
        least(with("qsgwb"), "qsgwb");
        least(with(cell(0)), "qqqbwwwwwwwww");
        least(with(cell(63)), "qwwwqwwwqwwwb");
        String cut = "q" + "qwbbw".repeat(4);
        least(lacksChequer(), "q" + cut.repeat(4));
        refused("letter of none such", q -> q.letter(0, -1), NONE);
        refused("letter of none such", q -> q.letter(0, 85), NONE);
    }

    /** Its least word has as many letters as any: 85. */
    private static QuarterWords lacksChequer() {
        QuarterWords q = with("b", "g");
        q.less(0, 1);
        return q;
    }

    /** "how often that CELL's SQUARE was cut (0 to 3) by LEAST, and the letter that tells it." */
    private static void depthIsNoneToThree() {
        at(with("s"), 63, 0, 0, 's');
        at(with("s"), 0, 1, 0, 's');
        at(with("g"), 63, 1, 0, 'g');
        at(with("w"), 63, 0, 0, 'w');
        at(with("b"), 0, 1, 0, 'b');
        QuarterWords q = with("qqqbwwwsgbbwg");
        at(q, 0, 1, 3, 'b');
        at(q, 1, 0, 3, 'w');
        at(q, 9, 0, 3, 'w');
        at(q, 2, 1, 2, 's');
        at(q, 10, 0, 2, 's');
        at(q, 16, 1, 2, 'g');
        at(q, 17, 0, 2, 'g');
        at(q, 18, 1, 2, 'b');
        at(q, 4, 1, 1, 'b');
        at(q, 32, 0, 1, 'w');
        at(q, 63, 1, 1, 'g');
        at(q, 62, 0, 1, 'g');
        for (int cell = 0; cell < 64; cell++) {
            boolean even = (cell / 8 + cell) % 2 == 0;
            at(lacksChequer(), cell, even ? 0 : 1, 3, even ? 'w' : 'b');
        }
    }

    private static void at(QuarterWords q, int cell, int black, int depth, int letter) {
        due("black at " + cell, q.at(0, cell, 0), black);
        due("depth at " + cell, q.at(0, cell, 1), depth);
        due("letter at " + cell, q.at(0, cell, 2), letter);
    }

    /** "(what = 0), DEPTH (1), the letter that tells it (2)": what is 0 to 2. */
    private static void whatOfAt() {
        bounds("at", 0, 2, OUTSIDE, (q, what) -> q.at(0, 0, what));
    }

    /** "AREA (what = 0), letters of LEAST (1), PARTS (2), RIM (3), BLOCKS (4)": what is 0 to 4. */
    private static void whatOfLook() {
        bounds("look", 0, 4, OUTSIDE, (q, what) -> q.look(0, what));
    }

    private static void shape(QuarterWords q, int parts, int rim, int blocks) {
        due("parts of " + Long.toHexString(q.black(0)), q.look(0, 2), parts);
        due("rim of " + Long.toHexString(q.black(0)), q.look(0, 3), rim);
        due("blocks of " + Long.toHexString(q.black(0)), q.look(0, 4), blocks);
    }

    /** "black CELLS hang together by sides": not by corners, and not around the picture's edge. */
    private static void partsAtTheEdge() {
        shape(with("w"), 0, 0, 0);
        shape(with("b"), 1, 32, 1);
        shape(with("g"), 32, 128, 32);
        shape(cells(0, 1), 1, 6, 2);
        shape(cells(0, 8), 1, 6, 2);
        shape(cells(3, 4), 1, 6, 2);
        shape(cells(24, 32), 1, 6, 2);
        shape(cells(0, 9), 2, 8, 2);
        shape(cells(1, 8), 2, 8, 2);
        shape(cells(27, 36), 2, 8, 2);
        shape(cells(7, 8), 2, 8, 2);
        shape(cells(55, 56), 2, 8, 2);
        shape(cells(0, 7), 2, 8, 2);
        shape(cells(0, 56), 2, 8, 2);
        shape(cells(7, 63), 2, 8, 2);
        shape(cells(0, 63), 2, 8, 2);
        shape(cells(0, 7, 56, 63), 4, 16, 4);
        // a ring around white, and a ring that is open at one cell
        shape(cells(0, 1, 2, 8, 10, 16, 17, 18), 1, 16, 8);
        shape(cells(0, 1, 2, 8, 10, 16, 18), 1, 16, 7);
    }

    /** A long way from a corner to the middle is one part, and is two without any cell of it but its ends. */
    private static void partsOfASpiral() {
        int[] way = {0, 1, 2, 3, 4, 5, 6, 7, 15, 23, 31, 39, 47, 55, 63, 62, 61, 60, 59, 58, 57, 56,
            48, 40, 32, 24, 16, 17, 18, 19, 20, 21, 29, 37, 45, 44, 43, 42, 34};
        long black = 0L;
        for (int cell : way) {
            black |= 1L << cell;
        }
        due("parts of the way", drawn(black).look(0, 2), 1);
        for (int i = 0; i < way.length; i++) {
            boolean end = i == 0 || i == way.length - 1;
            due("parts without " + way[i], drawn(black & ~(1L << way[i])).look(0, 2), end ? 1 : 2);
        }
    }

    /** "how many sides of black CELLS there are with no black CELL beyond": beyond the edge there is none. */
    private static void rimAtTheEdge() {
        for (int cell = 0; cell < 64; cell++) {
            due("rim of a cell", with(cell(cell)).look(0, 3), 4);
        }
        due("rim of all but a corner", all(0).look(0, 3), 32);
        due("rim of all but a side's cell", all(3).look(0, 3), 31 + 3);
        due("rim of all but a middle cell", all(27).look(0, 3), 32 + 4);
        due("rim of the lowest row", drawn(0xFFL).look(0, 3), 18);
        due("rim of the highest row", drawn(0xFFL << 56).look(0, 3), 18);
        due("rim of both", drawn(0xFFL | 0xFFL << 56).look(0, 3), 36);
        due("rim of the left column", drawn(0x0101010101010101L).look(0, 3), 18);
        due("rim of both columns", drawn(0x8181818181818181L).look(0, 3), 36);
    }

    /** "SQUARES that are all black, none in a greater one that is". */
    private static void blocksAtTheEdge() {
        due("blocks of three quarters", with("qbbbw").look(0, 4), 3);
        due("blocks of four quarters", with("qbbbb").look(0, 4), 1);
        due("blocks of three fourths", with("qqbbbwwww").look(0, 4), 3);
        due("blocks of four fourths", with("qqbbbbwww").look(0, 4), 1);
        due("blocks of three cells", cells(0, 1, 8).look(0, 4), 3);
        due("blocks of four cells", cells(0, 1, 8, 9).look(0, 4), 1);
        due("blocks of four cells askew", cells(1, 2, 9, 10).look(0, 4), 4);
        due("blocks of four cells across the middle", cells(27, 28, 35, 36).look(0, 4), 4);
        due("blocks of four fourths across the middle", with("qqwwwbqwwbwqwbwwqbwww").look(0, 4), 4);
        due("blocks of all but a cell", all(0).look(0, 4), 9);
        due("blocks of all but the last cell", all(63).look(0, 4), 9);
        QuarterWords most = with("g", "s");
        most.join(0, 1);
        due("most blocks", most.look(0, 4), 48);
        due("area of most blocks", most.look(0, 0), 48);
    }

    /** "WAYS are eight ... ALIKE: WAYS (bits) by which the one PICTURE is as the other one." */
    private static void alikeByNoneAndAll() {
        due("alike of white", new QuarterWords().alike(0, 1), 255);
        due("alike of black", with("b", "b").alike(0, 1), 255);
        due("alike of black and white", with("b", "w").alike(0, 1), 0);
        due("alike of one twice", with("qbwgs").alike(0, 0), 1);
        due("alike of white twice", with("w").alike(0, 0), 255);
        due("alike of all and all but one", alikeButOne(), 0);
        int[] to = {1, 15, 62, 48, 6, 55, 57, 8};
        for (int way = 0; way < 8; way++) {
            QuarterWords q = with(cell(1), cell(to[way]));
            due("alike by " + way, q.alike(0, 1), 1 << way);
            due("nearest by " + way, q.near(0, 1, 1), way);
            due("near by " + way, q.near(0, 1, 0), 0);
        }
        // back is another way for one turn and three
        due("back from one turn", with(cell(1), cell(15)).alike(1, 0), 1 << 3);
        due("back from three turns", with(cell(1), cell(48)).alike(1, 0), 1 << 1);
    }

    private static int alikeButOne() {
        QuarterWords q = all(9);
        text(q, "b").put(1);
        return q.alike(0, 1);
    }

    /** "NEAR: the fewest CELLS that are unlike ...: how many; by which (the least)." */
    private static void nearAtItsEdges() {
        near(with("b", "w"), 64, 0);
        near(with("w", "b"), 64, 0);
        near(with("w", "w"), 0, 0);
        near(with("b", "b"), 0, 0);
        near(with(cell(0), "w"), 1, 0);
        near(with(cell(0), cell(1)), 2, 0);
        // two ways lead from corner to corner: the least is told
        near(with(cell(0), cell(7)), 0, 1);
        near(with(cell(0), cell(63)), 0, 2);
        near(with(cell(0), cell(56)), 0, 3);
        near(with(cell(0), cell(0)), 0, 0);
        near(with("qbbbw", "qwwwb"), 32, 1);
        bounds("near", 0, 1, OUTSIDE, (q, what) -> q.near(0, 1, what));
    }

    private static void near(QuarterWords q, int unlike, int way) {
        due("near's number", q.near(0, 1, 0), unlike);
        due("near's way", q.near(0, 1, 1), way);
    }

    /** "n doings (1 to 4)". */
    private static void oneToFourDoings() {
        bounds("judge", 1, 4, OUTSIDE, (q, n) -> q.judge(n, 0));
        QuarterWords q = new QuarterWords();
        due("four that can be", q.judge(4, 400_501_602_712L), NONE);
        due("the first can not", q.judge(4, 403_501_602_712L), 0);
        due("the second can not", q.judge(4, 400_503_602_712L), 1);
        due("the third can not", q.judge(4, 400_501_632_712L), 2);
        due("the fourth can not", q.judge(4, 400_501_602_714L), 3);
        due("of two the first is told", q.judge(4, 400_503_632_714L), 1);
        due("one that can be", q.judge(1, 400), NONE);
        due("one that can not", q.judge(1, 403), 0);
    }

    /** "row (0 or more, 3 n figures at most)". */
    private static void figuresOfARow() {
        long[] most = {999L, 999_999L, 999_999_999L, 999_999_999_999L};
        for (int i = 0; i < 4; i++) {
            int n = i + 1;
            long row = most[i];
            refused("judge of " + row, q -> q.judge(n, row), 0);
            refused("judge of a figure more", q -> q.judge(n, row + 1), OUTSIDE);
            refused("judge of 0", q -> q.judge(n, 0L), 0);
            refused("judge below 0", q -> q.judge(n, -1L), OUTSIDE);
            refused("judge far below 0", q -> q.judge(n, Long.MIN_VALUE), OUTSIDE);
            refused("judge far above", q -> q.judge(n, Long.MAX_VALUE), OUTSIDE);
        }
        // a row with fewer figures begins with doings of 0, which can not be
        due("judge of fewer figures", new QuarterWords().judge(2, 400), 0);
        due("judge of fewer figures", new QuarterWords().judge(4, 400_400_400L), 0);
        due("judge of fewer figures", new QuarterWords().judge(1, 40), 0);
    }

    private static void judged(int doing, boolean can) {
        refused("judge of " + doing, q -> q.judge(1, doing), can ? NONE : 0);
    }

    /** "(1, two PICTURES: JOINED; ... 7, a PICTURE, a QUARTER: GROWN": all doings of those kinds. */
    private static void doingsThatCanBe() {
        for (int second = 0; second < 10; second++) {
            for (int third = 0; third < 10; third++) {
                int figures = 10 * second + third;
                boolean two = second <= 2 && third <= 2 && second != third;
                judged(figures, false);
                judged(100 + figures, two);
                judged(200 + figures, two);
                judged(300 + figures, two);
                judged(400 + figures, second == 0 && third <= 2);
                judged(500 + figures, second == 0 && third <= 2);
                judged(600 + figures, second <= 2 && third <= 3);
                judged(700 + figures, second <= 2 && third <= 3);
            }
        }
    }

    /** "8, a PICTURE, v: it has v PARTS or more". */
    private static void partsOrMore() {
        int[] corners = {0, 2, 4, 6, 16, 18, 20, 22, 32};
        for (int parts = 0; parts <= 9; parts++) {
            QuarterWords q = cells(java.util.Arrays.copyOf(corners, parts));
            for (int v = 0; v <= 9; v++) {
                due(parts + " parts, told " + v, q.judge(1, 800 + v), v <= parts ? NONE : 0);
            }
        }
        due("32 parts, told 9", with("g").judge(1, 809), NONE);
        due("white, told 0", new QuarterWords().judge(1, 820), NONE);
        due("white, told 1", new QuarterWords().judge(1, 821), 0);
        due("no such picture, told 0", new QuarterWords().judge(1, 830), 0);
        due("no such picture, told 0", new QuarterWords().judge(1, 890), 0);
    }

    /** "9, two (or one twice): they are ALIKE by some WAY". */
    private static void alikeBySomeWay() {
        QuarterWords q = with("qbwgs", "w", "qwbsg");
        due("one twice", q.judge(1, 900), NONE);
        due("one twice", q.judge(1, 911), NONE);
        due("one twice", q.judge(1, 922), NONE);
        due("two unlike", q.judge(1, 901), 0);
        due("flipped, but for its chequer", q.judge(1, 902), 0);
        due("no such one", q.judge(1, 930), 0);
        due("no such other", q.judge(1, 903), 0);
        due("no such, twice", q.judge(1, 933), 0);
        int[] to = {1, 15, 62, 48, 6, 55, 57, 8};
        for (int way = 0; way < 8; way++) {
            QuarterWords turned = with(cell(1), cell(to[way]));
            due("alike by " + way, turned.judge(1, 901), NONE);
            due("alike by " + way, turned.judge(1, 910), NONE);
        }
    }

    /** "JUDGED: n doings": each is done upon what those ahead of it left, and nothing is changed. */
    private static void doingsFollowOneAnother() {
        QuarterWords q = with("w", "b", "w");
        due("a part that is not there", q.judge(1, 801), 0);
        due("a part that was joined", q.judge(2, 101_801), NONE);
        due("a part that was joined and taken", q.judge(3, 101_301_801), 2);
        due("a part two pictures on", q.judge(3, 101_220_821), 2);
        due("a part two pictures on", q.judge(3, 101_120_821), NONE);
        due("alike when joined", q.judge(2, 101_901), NONE);
        due("not alike", q.judge(1, 901), 0);
        due("not alike when halved", q.judge(3, 101_600_901), 2);
        due("alike when halved and grown", q.judge(4, 101_600_700_901L), NONE);
        due("not alike when grown from elsewhere", q.judge(4, 101_600_701_901L), 3);
        due("nothing is changed", q.count(1), 64);
        due("no act is done", q.count(4), 3);
        refused("judge", some -> some.judge(4, 400_500_610_723L), NONE);
    }

    /** A doing that is judged is as the act: two doings and a look, against two acts and the same look. */
    private static void doingsAreAsActs() {
        int checked = 0;
        for (int first = 100; first < 800; first++) {
            for (int second = 100; second < 400; second++) {
                QuarterWords acted = three();
                if (isDone(acted, first) && isDone(acted, second)) {
                    looksBehind(acted, 1000L * first + second);
                    checked++;
                }
            }
        }
        due("pairs of doings", checked, (3 * 6 + 2 * 3 + 2 * 12) * (3 * 6));
    }

    private static QuarterWords three() {
        return with("qbwgs", "qwqbqwbwwwsbg", "qgqbwwwbs");
    }

    private static void looksBehind(QuarterWords acted, long doings) {
        QuarterWords q = three();
        for (int one = 0; one < 3; one++) {
            for (int v = 0; v < 10; v++) {
                boolean so = acted.look(one, 2) >= v;
                due("parts behind " + doings, q.judge(3, 1000L * doings + 800 + 10 * one + v), so ? NONE : 2);
            }
            for (int other = 0; other < 3; other++) {
                boolean so = acted.alike(one, other) != 0;
                due("alike behind " + doings, q.judge(3, 1000L * doings + 900 + 10 * one + other), so ? NONE : 2);
            }
        }
    }

    /** Does what a doing tells; false: it is refused. */
    private static boolean isDone(QuarterWords q, int doing) {
        int second = doing / 10 % 10;
        int third = doing % 10;
        switch (doing / 100) {
            case 1:
                return q.join(second, third) >= 0;
            case 2:
                return q.meet(second, third) >= 0;
            case 3:
                return q.less(second, third) >= 0;
            case 4:
                return second == 0 && q.turn(third) >= 0;
            case 5:
                return second == 0 && q.flip(third) >= 0;
            case 6:
                return q.halve(second, third) >= 0;
            default:
                return q.grow(second, third) >= 0;
        }
    }

    // ---- 3: what was seen, shares, rests, chances, slots

    /** "6 such at most, none at first." "FULL: 6." */
    private static void sixAreSeen() {
        QuarterWords q = new QuarterWords();
        due("seen at first", q.count(5), 0);
        due("unsee of none", q.unsee(), 0);
        for (int number = 1; number <= 6; number++) {
            due("see", q.see(number, number % 2), number);
            due("seen", q.count(5), number);
        }
        due("see the 7th", q.see(7, 1), FULL);
        due("see the 7th, seen before", q.see(1, 1), FULL);
        due("seen", q.count(5), 6);
        due("unsee", q.unsee(), 6);
        due("seen behind unsee", q.count(5), 0);
        due("see behind unsee", q.see(7, 1), 1);
        unchanged("see when full", STUFFED, full -> full.see(0, 0), FULL);
        unchanged("see when full", STUFFED, full -> full.see(63, 1), FULL);
    }

    /** "was black (1), or white (0)". "OUTSIDE: black (0, 1)". */
    private static void seenBlackOrWhite() {
        int[] beyond = {-1, 2, LOWEST, HIGHEST};
        for (int black : beyond) {
            refused("see " + black, q -> q.see(0, black), OUTSIDE);
        }
        QuarterWords q = new QuarterWords();
        due("see white", q.see(0, 0), 1);
        due("by white", q.leaves(1), 2111);
        q.unsee();
        due("see black", q.see(0, 1), 1);
        due("by black", q.leaves(1), 1111);
    }

    private static QuarterWords seen(int... cellsAndColours) {
        QuarterWords q = new QuarterWords();
        for (int i = 0; i < cellsAndColours.length; i += 2) {
            due("see", q.see(cellsAndColours[i], cellsAndColours[i + 1]), i / 2 + 1);
        }
        return q;
    }

    private static void leaves(QuarterWords q, int number, int first) {
        due("leaves", q.leaves(0), number);
        due("first leaves", q.leaves(1), first);
    }

    /** "how many (256 there are); the first (... the least number); NONE." */
    private static void leavesOfAllAndNone() {
        leaves(seen(), 256, 1111);
        leaves(seen(0, 0, 4, 0, 32, 0, 36, 0), 1, 2222);
        leaves(seen(0, 1, 0, 0), 0, NONE);
        leaves(seen(63, 0, 63, 1), 0, NONE);
        leaves(seen(0, 1, 0, 1), 192, 1111);
        // of three quarters a black cell and a white one, by which they are striped
        leaves(seen(1, 1, 8, 0, 5, 1, 12, 0, 33, 1, 40, 0), 4, 4441);
        leaves(seen(5, 1, 12, 0, 33, 1, 40, 0, 37, 1, 44, 0), 4, 1444);
        leaves(seen(0, 1, 8, 0, 4, 1, 12, 0, 36, 1, 44, 0), 32, 3313);
        // black at a cell that is so by b alone
        leaves(seen(8, 1, 12, 1, 40, 1, 44, 1), 1, 1111);
        leaves(seen(8, 1, 9, 0), 0, NONE);
        bounds("leaves", 0, 1, OUTSIDE, (q, what) -> q.leaves(what));
    }

    /** Each of the four quarters is told by its own cells alone, its corners among them. */
    private static void leavesOfCorners() {
        int[][] corners = {{0, 3, 24, 27}, {4, 7, 28, 31}, {32, 35, 56, 59}, {36, 39, 60, 63}};
        int[] second = {2111, 1211, 1121, 1112};
        int[] blackBy = {3, 2, 1, 2};
        for (int quarter = 0; quarter < 4; quarter++) {
            for (int i = 0; i < 4; i++) {
                int cell = corners[quarter][i];
                leaves(seen(cell, 1), 64 * blackBy[i], 1111);
                leaves(seen(cell, 0), 64 * (4 - blackBy[i]), second[quarter]);
            }
        }
    }

    private static void share(QuarterWords q, int picture, int above, int below) {
        due("share above", q.share(picture, true), above);
        due("share below", q.share(picture, false), below);
    }

    /** "if PICTURES are JOINED one by one to a white one, in each order as likely". */
    private static void sharesAtTheirEdges() {
        QuarterWords q = with("b", "w", "w");
        share(q, 0, 64, 1);
        share(q, 1, 0, 1);
        share(q, 2, 0, 1);
        q = with("w", "b", "b");
        share(q, 0, 0, 1);
        share(q, 1, 32, 1);
        share(q, 2, 32, 1);
        q = with("b", "b", "b");
        for (int picture = 0; picture < 3; picture++) {
            share(q, picture, 64, 3);
        }
        share(with(cell(63), cell(63), cell(63)), 2, 1, 3);
        share(with(cell(63), cell(63), cell(62)), 0, 1, 2);
        share(with(cell(63), cell(63), cell(62)), 2, 1, 1);
        // one cell in all three, one in two
        q = with("qqsbbbwww", "qqsbbbwww", "qqbbbbwww");
        share(q, 0, 14, 3);
        share(q, 2, 20, 3);
    }

    /** "UNKNOWN: both; OUTSIDE: both are one, what." */
    private static void restsRefused() {
        for (int picture = 0; picture < 3; picture++) {
            int p = picture;
            refused("rests of one", q -> q.rests(p, p, 0), OUTSIDE);
            refused("rests of one", q -> q.rests(p, p, 1), OUTSIDE);
            refused("rests of one, what outside", q -> q.rests(p, p, 2), OUTSIDE);
        }
        bounds("rests", 0, 1, OUTSIDE, (q, what) -> q.rests(1, 2, what));
    }

    private static void rests(QuarterWords q, int one, int other, int number, int first) {
        due("rests", q.rests(one, other, 0), number);
        due("first rest", q.rests(one, other, 1), first);
    }

    /** "pairs in which neither has more by another choice alone: how many; the first". */
    private static void restsAtTheirEdges() {
        rests(new QuarterWords(), 0, 1, 4, 0);
        rests(with("b", "b", "b"), 0, 1, 4, 0);
        // cell 1 turned is cell 15: the one is better there, or here, or as well
        rests(with(cell(1), "w", cell(15)), 0, 1, 2, 10);
        rests(with(cell(1), "w", cell(15)), 1, 0, 2, 1);
        rests(with(cell(1), "w", cell(1)), 0, 1, 2, 0);
        rests(with(cell(1), "w", cell(2)), 0, 1, 4, 0);
        // each is best away from the other one
        rests(with(cell(1), cell(1), "w"), 0, 1, 2, 1);
        rests(with(cell(1), cell(15), "w"), 0, 1, 3, 0);
        rests(with(cell(1), cell(2), "qqqwbwwqbwwwwwwww"), 0, 1, 1, 0);
        rests(with(cell(1), cell(2), "qwqwqwwwbwqwbwwww"), 0, 1, 1, 11);
    }

    private static void fades(QuarterWords q, int v, int x, int above, int below) {
        due("fades above " + v + " " + x, q.fades(0, v, x, true), above);
        due("fades below " + v + " " + x, q.fades(0, v, x, false), below);
    }

    /** "white by x tenths (0 to 10) ... that v (0 to 64) CELLS or more are black". */
    private static void fadesAtTheirEdges() {
        bounds("fades by v", 0, 64, OUTSIDE, (q, v) -> q.fades(0, v, 5, true));
        bounds("fades by x", 0, 10, OUTSIDE, (q, x) -> q.fades(0, 32, x, false));
        String[] words = {"w", "b", "qbwgs", "qqqbwwwwwwwww"};
        int[] areas = {0, 64, 32, 1};
        for (int i = 0; i < 4; i++) {
            QuarterWords q = with(words[i]);
            for (int x = 0; x <= 10; x++) {
                fades(q, 0, x, 1, 1);
            }
            fades(q, areas[i], 0, 1, 1);
            if (areas[i] < 64) {
                fades(q, areas[i] + 1, 0, 0, 1);
            }
            fades(q, 1, 10, 0, 1);
            fades(q, 64, 10, 0, 1);
        }
        fades(with("b"), 64, 9, 1, 10000);
        fades(with("b"), 1, 9, 3439, 10000);
        fades(with("b"), 16, 9, 3439, 10000);
        fades(with("b"), 17, 9, 523, 10000);
        fades(with("qbwww"), 16, 9, 1, 10);
        fades(with("qbwww"), 17, 9, 0, 1);
    }

    /** "THE SEED, a long; 0 at first". "THE SEED is v: what it was." */
    private static void seedOfAnyLong() {
        QuarterWords q = new QuarterWords();
        long[] seeds = {Long.MIN_VALUE, Long.MAX_VALUE, -1L, 1L, 0L};
        long was = 0L;
        for (long seed : seeds) {
            due("seed", q.seed(seed), was);
            was = seed;
        }
        due("seed", q.seed(7L), 0L);
    }

    private static final BigInteger WRAP = BigInteger.ONE.shiftLeft(64);

    private static BigInteger next(BigInteger seed) {
        return seed.multiply(new BigInteger("6364136223846793005"))
            .add(new BigInteger("1442695040888963407")).mod(WRAP);
    }

    /** "x becomes x times 6364136223846793005 and 1442695040888963407 (64 bits, wrapping)". */
    private static void seedsWrap() {
        long[] seeds = {0L, 1L, -1L, 5L, Long.MIN_VALUE, Long.MAX_VALUE, 0x123456789ABCDEFL};
        for (long seed : seeds) {
            QuarterWords q = new QuarterWords();
            q.seed(seed);
            BigInteger x = BigInteger.valueOf(seed);
            for (int year = 0; year < 7; year++) {
                due("years of white", q.years(1), 0);
                x = next(x);
                long now = q.seed(0L);
                due("seed behind a year", now, x.longValue());
                q.seed(now);
            }
        }
        QuarterWords q = new QuarterWords();
        q.seed(Long.MIN_VALUE);
        q.years(1);
        due("seed behind the lowest", q.seed(0L), Long.MIN_VALUE + 1442695040888963407L);
    }

    /** "its upper 31 bits by 36, what is left": of seeds below 0 too. */
    private static void lotsOfTheUpperBits() {
        int below = 0;
        for (long seed = -300; seed < 300; seed++) {
            BigInteger x = next(BigInteger.valueOf(seed));
            int lot = x.shiftRight(33).mod(BigInteger.valueOf(36)).intValue();
            below += x.testBit(63) ? 1 : 0;
            QuarterWords q = with("qbbww", "qbwww", "qqwwbbwww");
            q.seed(seed);
            due("year of lot " + lot, q.years(1), 56 + change(lot));
        }
        holds("many of them below 0", below > 100 && below < 500);
    }

    /** What a lot adds to the area of pictures of 32, 16 and 8 cells, each within the one before. */
    private static int change(int lot) {
        int[] changes = {0, 0, 0, 16, 0, 0, 24, 8, 0,
            0, -16, -24, 0, 0, -8, 0, 0, 0,
            0, -16, -8, -16, 0, -8, -8, -8, 0,
            0, 0, 0,
            -24, -12, -6,
            32, 48, 24};
        return changes[lot];
    }

    private static long seedOf(int lot) {
        long seed = 0;
        while (next(BigInteger.valueOf(seed)).shiftRight(33).mod(BigInteger.valueOf(36)).intValue() != lot) {
            seed++;
        }
        return seed;
    }

    /** "(nothing, if both are one)". */
    private static void noYearOfOneTwice() {
        int[] lots = {0, 4, 8, 9, 13, 17, 18, 22, 26};
        for (int lot : lots) {
            QuarterWords q = with("b", "b", "b");
            q.seed(seedOf(lot));
            due("year of one twice", q.years(1), 192);
        }
    }

    /** "m times (1 to 30)". "AREA of all PICTURES, each time, together." */
    private static void oneToThirtyYears() {
        bounds("years", 1, 30, OUTSIDE, (q, m) -> q.years(m));
        for (int m = 1; m <= 30; m++) {
            QuarterWords q = new QuarterWords();
            due("years of white", q.years(m), 0);
            BigInteger x = BigInteger.ZERO;
            for (int year = 0; year < m; year++) {
                x = next(x);
            }
            due("seed behind years", q.seed(0L), x.longValue());
        }
        QuarterWords acted = three();
        BigInteger x = BigInteger.valueOf(-5);
        int sum = 0;
        for (int m = 1; m <= 30; m++) {
            x = next(x);
            act(acted, x.shiftRight(33).mod(BigInteger.valueOf(36)).intValue());
            sum += acted.count(1);
            QuarterWords q = three();
            q.seed(-5);
            due(m + " years", q.years(m), sum);
        }
    }

    private static void act(QuarterWords q, int lot) {
        int one = lot % 9 / 3;
        int other = lot % 3;
        switch (lot / 9) {
            case 0 -> q.join(one, other);
            case 1 -> q.meet(one, other);
            case 2 -> q.less(one, other);
            default -> {
                if (one == 0) {
                    q.turn(other);
                } else if (one == 1) {
                    q.halve(other, 0);
                } else {
                    q.grow(other, 0);
                }
            }
        }
    }

    /** "(Nothing changes but THE SEED.)" */
    private static void yearsChangeTheSeedAlone() {
        for (int state = 0; state < STATES; state++) {
            int before = state == NEW ? 0 : 77;
            unchanged("years", state, q -> {
                q.years(30);
                q.seed(before);
                return q.years(31);
            }, OUTSIDE);
        }
    }

    /** "They are kept". "STATE: none were kept." */
    private static void slotsKeptAndNot() {
        unchanged("again of none", NEW, q -> q.again(0), STATE);
        unchanged("again of none", NEW, q -> q.again(1), STATE);
        unchanged("again of none", BUSY, q -> q.again(1), STATE);
        QuarterWords q = new QuarterWords();
        due("keep of white", q.keep(1), 0);
        due("the other slot is none", q.again(0), STATE);
        text(q, "b").put(0);
        due("white pictures were kept", q.again(1), 0);
        due("and are again", q.black(0), 0L);
        q = with("b", "b", "b");
        due("keep of black", q.keep(0), 192);
        due("again of black", q.again(0), 192);
        q.less(0, 1);
        due("keep over another", q.keep(0), 128);
        q.join(0, 1);
        due("again of the last kept", q.again(0), 128);
        due("and once more", q.again(0), 128);
    }

    /** "(THE ROW of ACTS is empty when one goes on)". */
    private static void noActsWhenGoneOn() {
        QuarterWords q = made(STUFFED);
        due("acts ahead of it", q.count(4), 14);
        q.keep(0);
        due("keep leaves the row", q.count(4), 14);
        due("undo behind keep", q.undo(), 13);
        q.turn(0);
        q.again(0);
        due("acts behind again", q.count(4), 0);
        due("undo behind again", q.undo(), STATE);
        q.flip(1);
        due("an act behind again", q.count(4), 1);
        due("and it is undone", q.undo(), 0);
        due("text behind again", q.count(0), 64);
        due("seen behind again", q.count(5), 6);
        due("seed behind again", q.seed(0), 77);
        QuarterWords none = with("b");
        due("again of none", none.again(0), STATE);
        due("acts behind a refused again", none.count(4), 1);
    }

    /** "0 letters of THE TEXT, 1 AREA ... 5 SEEN. OUTSIDE.", at none and at most. */
    private static void countsOfNoneAndMost() {
        bounds("count", 0, 5, OUTSIDE, (q, what) -> q.count(what));
        QuarterWords q = with("b", "b", "b");
        text(q, "x".repeat(64));
        for (int i = 0; i < 15; i++) {
            q.turn(0);
        }
        for (int i = 0; i < 7; i++) {
            q.see(i, 1);
        }
        int[] most = {64, 192, 64, 64, 14, 6};
        for (int what = 0; what <= 5; what++) {
            due("most of " + what, q.count(what), most[what]);
        }
        q = with("qbwww", "qwbww", "qwwbw");
        due("in any", q.count(2), 48);
        due("in all three", q.count(3), 0);
        q = with("b", "b", "w");
        due("in any", q.count(2), 64);
        due("in two of three", q.count(3), 0);
        due("in two of three", with("b", "w", "b").count(3), 0);
        due("in two of three", with("w", "b", "b").count(3), 0);
        due("in all three", with("b", "qbwwb", cell(63)).count(3), 1);
    }

    /** "An object is used for at most 512 calls": the last of them answers as the first. */
    private static void fiveHundredAndTwelveCalls() {
        QuarterWords q = new QuarterWords();
        q.write('g');
        for (int call = 1; call < 511; call++) {
            due("put", q.put(call % 3), 32);
        }
        due("the last call", q.count(4), 14);
    }

    /** No call fails, whatever numbers it is given, and looks change nothing. */
    private static void anyNumbers() {
        int[] numbers = {LOWEST, LOWEST + 1, -1000, -9, -4, -3, -2, -1, 0, 1, 2, 3, 4, 5, 6, 63, 64, 65,
            85, 255, 256, 1000, HIGHEST - 1, HIGHEST};
        for (int state = 0; state < STATES; state++) {
            for (int one : numbers) {
                acts(made(state), one);
                for (int other : numbers) {
                    looks(made(state), one, other);
                }
            }
        }
    }

    private static void acts(QuarterWords q, int one) {
        q.write(one);
        q.put(one);
        q.turn(one);
        q.flip(one);
        q.keep(one);
        q.again(one);
        q.years(one);
        q.undo();
        for (int other = -1; other < 5; other++) {
            q.join(one, other);
            q.meet(other, one);
            q.less(one, other);
            q.halve(one, other);
            q.grow(other, one);
            q.see(one, other);
        }
        q.black(one);
        q.leaves(one);
        q.count(one);
        q.fault();
    }

    private static void looks(QuarterWords q, int one, int other) {
        String before = shown(q);
        for (int i = -1; i < 5; i++) {
            q.at(i, one, other);
            q.at(one, other, i);
            q.near(one, other, i);
            q.rests(one, other, i);
            q.fades(i, one, other, other > 0);
            q.fades(one, other, i, other > 0);
            q.judge(i, 1000L * one + other);
            q.judge(one, other);
        }
        q.look(one, other);
        q.letter(one, other);
        q.alike(one, other);
        q.share(one, other > 0);
        holds("looks change nothing", before.equals(shown(q)));
    }

    private static String shown(QuarterWords q) {
        StringBuilder s = new StringBuilder();
        pictures(s, q);
        for (int what = 0; what <= 5; what++) {
            s.append(q.count(what)).append(' ');
        }
        return s.append(q.fault()).append(' ').append(q.leaves(0)).toString();
    }

    private static void refusals() {
        picturesAreThree();
        blackOfUnknownIsNothing();
        cellsAreSixtyFour();
        quartersAreFour();
        slotsAreTwo();
        theFirstRefusalIsTold();
        constants();
        fractionsAreInLeastTerms();
        fractionsRefuseAlike();
    }

    private static void wordsAndActs() {
        allIsWhiteAtFirst();
        cellsAreAtTheirPlaces();
        quartersAreAtTheirPlaces();
        textIsFullAtSixtyFour();
        lettersAreBytes();
        wipeOfNoneAndOfAll();
        leavesOfEachWidth();
        faultOfEachLetter();
        noCutOfOneCell();
        justOneWord();
        faultAtTheEnd();
        faultSetsLengthAside();
        putAtItsEdges();
        pairsOfNoneAndAll();
        bothAreOne();
        turnsOfCorners();
        flipsOfCorners();
        halvesOfTwoOrMore();
        growsOfEachCell();
        eightKindsOfActs();
        fourteenActs();
        fourteenActsByTurns();
        undoOfNone();
    }

    private static void looksAtEdges() {
        areaOfNoneAndAll();
        leastOfFourCells();
        letterAtItsEdges();
        depthIsNoneToThree();
        whatOfAt();
        whatOfLook();
        partsAtTheEdge();
        partsOfASpiral();
        rimAtTheEdge();
        blocksAtTheEdge();
        alikeByNoneAndAll();
        nearAtItsEdges();
        oneToFourDoings();
        figuresOfARow();
        doingsThatCanBe();
        partsOrMore();
        alikeBySomeWay();
        doingsFollowOneAnother();
        doingsAreAsActs();
    }

    private static void chancesAndSlots() {
        sixAreSeen();
        seenBlackOrWhite();
        leavesOfAllAndNone();
        leavesOfCorners();
        sharesAtTheirEdges();
        restsRefused();
        restsAtTheirEdges();
        fadesAtTheirEdges();
        seedOfAnyLong();
        seedsWrap();
        lotsOfTheUpperBits();
        noYearOfOneTwice();
        oneToThirtyYears();
        yearsChangeTheSeedAlone();
        slotsKeptAndNot();
        noActsWhenGoneOn();
        countsOfNoneAndMost();
    }

    public static void main(String[] args) {
        refusals();
        wordsAndActs();
        looksAtEdges();
        chancesAndSlots();
        fiveHundredAndTwelveCalls();
        anyNumbers();
        System.out.println(wrong == 0 ? "edges: all as due" : wrong + " answers are not as due");
        if (wrong != 0) {
            System.exit(1);
        }
    }
}
