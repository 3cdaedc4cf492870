/** Each promise of the document by itself, with answers that were found by hand from its words. */
public final class PromiseTest {
    private static int wrong = 0;
    private static final int UNKNOWN = -1, OUTSIDE = -2, STATE = -3, FULL = -4, NONE = -9;
    private static final int[] NO_PICTURES = {-1, 3, Integer.MIN_VALUE, Integer.MAX_VALUE};
    private static final int[] NO_CELLS = {-1, 64, Integer.MIN_VALUE, Integer.MAX_VALUE};
    private static final int[] NO_QUARTERS = {-1, 4, Integer.MIN_VALUE, Integer.MAX_VALUE};
    private static final int[] NO_SLOTS = {-1, 2, Integer.MIN_VALUE, Integer.MAX_VALUE};
    private static final int[] NO_BITS = {-1, 2, Integer.MIN_VALUE, Integer.MAX_VALUE};

    private static void due(String what, long got, long want) {
        if (got != want) {
            wrong++;
            System.out.println(what + " answered " + got + ", due is " + want);
        }
    }

    private static QuarterWords text(QuarterWords q, String word) {
        q.wipe();
        for (int i = 0; i < word.length(); i++) {
            q.write(word.charAt(i));
        }
        return q;
    }

    /** A new object whose pictures are told by words; an empty word leaves the picture white. */
    private static QuarterWords with(String... words) {
        QuarterWords q = new QuarterWords();
        for (int picture = 0; picture < words.length; picture++) {
            if (!words[picture].isEmpty()) {
                due("put of " + words[picture], text(q, words[picture]).put(picture) < 0 ? 1 : 0, 0);
            }
        }
        q.wipe();
        return q;
    }

    /** The word with one cell black and all else white. */
    private static String cell(int x, int y) {
        return square(x, y, 8);
    }

    private static String square(int x, int y, int width) {
        if (x < 0 || y < 0 || x >= width || y >= width) {
            return "w";
        }
        if (width == 1) {
            return "b";
        }
        int half = width / 2;
        return "q" + square(x, y, half) + square(x - half, y, half)
            + square(x, y - half, half) + square(x - half, y - half, half);
    }

    /** All that can be told of an object without a change that stays. */
    private static String state(QuarterWords q) {
        StringBuilder s = new StringBuilder();
        for (int picture = 0; picture < 3; picture++) {
            s.append(q.black(picture)).append(' ');
        }
        for (int what = 0; what < 6; what++) {
            s.append(q.count(what)).append(' ');
        }
        long seed = q.seed(0);
        q.seed(seed);
        return s.append(q.fault()).append(' ').append(q.leaves(0)).append(' ').append(q.leaves(1))
            .append(' ').append(seed).toString();
    }

    private static void same(String what, QuarterWords q, String before) {
        String after = state(q);
        if (!after.equals(before)) {
            wrong++;
            System.out.println(what + " changed " + before + " to " + after);
        }
    }

    /** An object in which everything has been used. */
    private static QuarterWords busy() {
        QuarterWords q = with("qbwgs", "qwqbwwbwb", "g");
        q.see(0, 1);
        q.see(9, 0);
        q.seed(77);
        return text(q, "qbw");
    }

    private static void promise01() {
        QuarterWords q = new QuarterWords();
        for (int picture = 0; picture < 3; picture++) {
            due("new black", q.black(picture), 0);
        }
        for (int what = 0; what < 6; what++) {
            due("new count", q.count(what), 0);
        }
        due("new seed", q.seed(0), 0);
        due("new fault", q.fault(), 0);
        due("new undo", q.undo(), STATE);
        due("new again 0", q.again(0), STATE);
        due("new again 1", q.again(1), STATE);
        due("new leaves", q.leaves(0), 256);
    }

    private static void promise02() {
        QuarterWords q = new QuarterWords();
        String before = state(q);
        int[] outside = {-1, 256, Integer.MIN_VALUE, Integer.MAX_VALUE};
        for (int letter : outside) {
            due("write " + letter, q.write(letter), OUTSIDE);
        }
        same("refused write", q, before);
        due("write 0", q.write(0), 1);
        due("write 255", q.write(255), 2);
        for (int size = 3; size <= 64; size++) {
            due("write", q.write('b'), size);
        }
        before = state(q);
        due("write when full", q.write('b'), FULL);
        due("write outside when full", q.write(256), OUTSIDE);
        same("write when full", q, before);
        due("full count", q.count(0), 64);
    }

    private static void promise03() {
        QuarterWords q = text(new QuarterWords(), "qbw");
        due("wipe", q.wipe(), 3);
        due("count behind wipe", q.count(0), 0);
        due("wipe of nothing", q.wipe(), 0);
        due("write behind wipe", q.write('b'), 1);
        due("fault behind wipe", q.fault(), NONE);
    }

    private static void fault(String word, int want) {
        due("fault of " + word, text(new QuarterWords(), word).fault(), want);
    }

    private static void promise04() {
        fault("", 0);
        fault("b", NONE);
        fault("w", NONE);
        fault("g", NONE);
        fault("s", NONE);
        fault("q", 1);
        fault("x", 0);
        fault("B", 0);
        fault("bb", 1);
        fault("bx", 1);
        fault("qbbb", 4);
        fault("qbbbb", NONE);
        fault("qbbbbb", 5);
        fault("qbbxb", 3);
        fault("qqqbbbb", 7);
        fault("qqqq", 3);
        fault("qqqbq", 4);
        fault("qqqbwgsbbbbbb", NONE);
        fault("qbqwqgsbwbbbb", NONE);
        fault("qbbbq", 5);
        fault("qbbbqbbbb", NONE);
        fault("qbbbqbbbqbbbb", NONE);
        fault("qbbbqbbbqbbbqbbbb", 12);
        StringBuilder longest = new StringBuilder("q");
        for (int i = 0; i < 3; i++) {
            longest.append("qqbbbbqbbbbqbbbbqbbbb");
        }
        // a word of 85 letters could never be written, but its length is set aside
        fault(longest.toString(), 64);
        due("fault is told", text(new QuarterWords(), longest.toString()).put(0), STATE);
        QuarterWords q = text(new QuarterWords(), "qb");
        String before = state(q);
        q.fault();
        same("fault", q, before);
    }

    private static void put(String word, int area, long black) {
        QuarterWords q = text(new QuarterWords(), word);
        due("put of " + word, q.put(1), area);
        due("black of " + word, q.black(1), black);
        due("black of another", q.black(0) | q.black(2), 0);
        due("the text stays", q.count(0), word.length());
        due("put is an act", q.count(4), 1);
    }

    private static void promise05() {
        put("b", 64, -1L);
        put("w", 0, 0);
        put("g", 32, 0xAA55AA55AA55AA55L);
        put("s", 32, 0x00FF00FF00FF00FFL);
        put("qbwww", 16, 0x0F0F0F0FL);
        put("qwbww", 16, 0xF0F0F0F0L);
        put("qwwbw", 16, 0x0F0F0F0F00000000L);
        put("qwwwb", 16, 0xF0F0F0F000000000L);
        put("qqwbwwwww", 4, 0x0C0CL);
        put("qqwwqwbwwwwww", 1, 1L << 17);
        put("qwwwg", 8, 0xA050A05000000000L);
        put("qwwws", 8, 0x00F000F000000000L);
        // one cell wide, too, g and s go by x and y of the cell in the whole
        put("qqqggggwwwwww", 2, 1L | 1L << 9);
        put("qqqsssswwwwww", 2, 3L);
        QuarterWords q = text(new QuarterWords(), "b");
        q.put(0);
        due("put over another", text(q, "s").put(0), 32);
        due("put over another", q.black(0), 0x00FF00FF00FF00FFL);
        q = text(busy(), "qb");
        String before = state(q);
        for (int picture : NO_PICTURES) {
            due("put " + picture, q.put(picture), UNKNOWN);
        }
        due("put of a fault", q.put(0), STATE);
        same("refused put", q, before);
        q.wipe();
        due("put of nothing", q.put(0), STATE);
    }

    private static int pair(QuarterWords q, int kind, int one, int other) {
        return kind == 0 ? q.join(one, other) : kind == 1 ? q.meet(one, other) : q.less(one, other);
    }

    private static void pairs(int kind, int area, long black) {
        QuarterWords q = with("qbwgs", "g");
        due("pair " + kind, pair(q, kind, 0, 1), area);
        due("pair's black " + kind, q.black(0), black);
        due("pair's other " + kind, q.black(1), 0xAA55AA55AA55AA55L);
        due("pair is an act", q.count(4), 3);
        q = busy();
        String before = state(q);
        for (int picture : NO_PICTURES) {
            due("pair of unknown", pair(q, kind, picture, 0), UNKNOWN);
            due("pair of unknown", pair(q, kind, 0, picture), UNKNOWN);
            due("pair of unknown twice", pair(q, kind, picture, picture), UNKNOWN);
        }
        for (int picture = 0; picture < 3; picture++) {
            due("pair of one", pair(q, kind, picture, picture), OUTSIDE);
        }
        same("refused pair " + kind, q, before);
    }

    private static void promise06() {
        pairs(0, 16 + 8 + 8 + 12, 0xAAF5AAF5AF5FAF5FL);
    }

    private static void promise07() {
        pairs(1, 8 + 0 + 8 + 4, 0x0A050A05L | 0x0A050A0500000000L | 0x0050005000000000L);
    }

    private static void promise08() {
        pairs(2, 8 + 0 + 0 + 4, 0x050A050AL | 0x00A000A000000000L);
    }

    private static void promise09() {
        QuarterWords q = with(cell(1, 0), cell(0, 2), "s");
        due("turn", q.turn(0), 0);
        due("turned black", q.black(0), 1L << 8 * 1 + 7);
        due("turn", q.turn(0), 0);
        due("turned black", q.black(0), 1L << 8 * 7 + 6);
        due("turn", q.turn(0), 0);
        due("turned black", q.black(0), 1L << 8 * 6 + 0);
        due("turn", q.turn(0), 2);
        due("turned black", q.black(0), 2);
        due("turn into the lowest row", q.turn(1), 1 << 5);
        due("turn of stripes", q.turn(2), 0xAA);
        due("turn is an act", q.count(4), 3 + 6);
        q = busy();
        String before = state(q);
        for (int picture : NO_PICTURES) {
            due("turn of unknown", q.turn(picture), UNKNOWN);
        }
        same("refused turn", q, before);
        q = with("", "", "b");
        due("turn of the last", q.turn(2), 255);
    }

    private static void promise10() {
        QuarterWords q = with(cell(1, 0), cell(0, 2), "s");
        due("flip", q.flip(0), 1 << 6);
        due("flip", q.flip(1), 0);
        due("flipped black", q.black(1), 1L << 8 * 2 + 7);
        due("flip of stripes", q.flip(2), 255);
        due("flip back", q.flip(0), 2);
        due("flip is an act", q.count(4), 3 + 4);
        q = busy();
        String before = state(q);
        for (int picture : NO_PICTURES) {
            due("flip of unknown", q.flip(picture), UNKNOWN);
        }
        same("refused flip", q, before);
    }

    private static void promise11() {
        // of four cells each three, two, one and none are black
        for (int quarter = 0; quarter < 4; quarter++) {
            QuarterWords q = with("qqqbbbwqbbwwqbwwwwwww");
            due("halve", q.halve(0, quarter), 2);
            due("halved black", q.black(0), 3L << 4 * (quarter % 2) + 32 * (quarter / 2));
            due("halve is an act", q.count(4), 2);
        }
        QuarterWords q = with("b", "g", "s");
        due("halve of black", q.halve(0, 3), 16);
        due("halved black", q.black(0), 0xF0F0F0F000000000L);
        due("halve again", q.halve(0, 2), 4);
        due("halved twice", q.black(0), 0x0C0C000000000000L);
        due("halve of a chequer", q.halve(1, 1), 16);
        due("halve of stripes", q.halve(2, 0), 16);
        due("halved stripes", q.black(2), 0x0F0F0F0FL);
        q = busy();
        String before = state(q);
        for (int picture : NO_PICTURES) {
            due("halve of unknown", q.halve(picture, 0), UNKNOWN);
        }
        for (int quarter : NO_QUARTERS) {
            due("halve into unknown", q.halve(0, quarter), UNKNOWN);
        }
        same("refused halve", q, before);
    }

    private static void promise12() {
        int[] areas = {64, 0, 32, 32};
        long[] black = {-1L, 0, 0xCCCC3333CCCC3333L, 0x0000FFFF0000FFFFL};
        for (int quarter = 0; quarter < 4; quarter++) {
            QuarterWords q = with("qbwgs");
            due("grow", q.grow(0, quarter), areas[quarter]);
            due("grown black", q.black(0), black[quarter]);
            due("grow is an act", q.count(4), 2);
        }
        QuarterWords q = with(cell(6, 5));
        due("grow of a cell", q.grow(0, 3), 4);
        due("grown cell", q.black(0), 0x3030L << 16);
        q = busy();
        String before = state(q);
        for (int picture : NO_PICTURES) {
            due("grow of unknown", q.grow(picture, 0), UNKNOWN);
        }
        for (int quarter : NO_QUARTERS) {
            due("grow from unknown", q.grow(0, quarter), UNKNOWN);
        }
        same("refused grow", q, before);
    }

    private static void promise13() {
        QuarterWords q = with("qbwgs", "qwqbwwbwb", "g");
        long zero = q.black(0);
        long one = q.black(1);
        q.join(0, 1);
        q.meet(1, 2);
        q.less(0, 2);
        q.turn(0);
        q.flip(1);
        q.halve(2, 3);
        q.grow(0, 1);
        due("acts", q.count(4), 10);
        for (int left = 9; left >= 3; left--) {
            due("undo", q.undo(), left);
        }
        due("undone 0", q.black(0), zero);
        due("undone 1", q.black(1), one);
        due("undone 2", q.black(2), 0xAA55AA55AA55AA55L);
        due("undo of put", q.undo(), 2);
        due("undone 2", q.black(2), 0);
        due("undo of put", q.undo(), 1);
        due("undo of put", q.undo(), 0);
        due("all undone", q.count(1), 0);
        due("undo of nothing", q.undo(), STATE);
        promise13OfMany();
    }

    private static void promise13OfMany() {
        QuarterWords q = with(cell(0, 0));
        for (int i = 0; i < 17; i++) {
            q.turn(0);
        }
        due("acts at most", q.count(4), 14);
        due("turned 17 times", q.black(0), 1L << 7);
        for (int left = 13; left >= 0; left--) {
            due("undo of many", q.undo(), left);
        }
        due("three turns stay", q.black(0), 1L << 56);
        due("undo of what is forgotten", q.undo(), STATE);
        due("nothing more is undone", q.black(0), 1L << 56);
        q.flip(1);
        due("an act without a change is one", q.count(4), 1);
        long[][] states = new long[21][3];
        q = with("qbwgs", cell(1, 0), "qwqbwwbwb");
        for (int i = 0; i < 21; i++) {
            for (int picture = 0; picture < 3; picture++) {
                states[i][picture] = q.black(picture);
            }
            q.turn(i * i % 3);
        }
        for (int i = 20; i > 6; i--) {
            due("undo step by step", q.undo(), i - 7);
            for (int picture = 0; picture < 3; picture++) {
                due("undone step by step", q.black(picture), states[i][picture]);
            }
        }
    }

    private static void promise14() {
        QuarterWords q = with("qbwgs", "", "b");
        due("black", q.black(0), 789549357309300495L);
        due("black", q.black(1), 0);
        due("black", q.black(2), -1L);
        for (int picture : NO_PICTURES) {
            due("black of unknown", q.black(picture), 0);
        }
    }

    private static void looks(String word, int area, int letters, int parts, int rim, int blocks) {
        QuarterWords q = with("", word);
        String before = state(q);
        due("area of " + word, q.look(1, 0), area);
        due("letters of " + word, q.look(1, 1), letters);
        due("parts of " + word, q.look(1, 2), parts);
        due("rim of " + word, q.look(1, 3), rim);
        due("blocks of " + word, q.look(1, 4), blocks);
        same("look", q, before);
    }

    private static void promise15() {
        looks("w", 0, 1, 0, 0, 0);
        looks("b", 64, 1, 1, 32, 1);
        looks("g", 32, 1, 32, 128, 32);
        looks("s", 32, 1, 4, 4 * 18, 32);
        looks("qbbbw", 48, 5, 1, 32, 3);
        looks("qbwwb", 32, 5, 2, 32, 2);
        looks(cell(5, 2), 1, 13, 1, 4, 1);
        looks(cell(7, 7), 1, 13, 1, 4, 1);
        // sides of the picture do not meet one another
        looks("qwbbw", 32, 5, 2, 32, 2);
        looks("qqqwbwwwwwqwqwwbwwwww", 2, 21, 2, 8, 2);
        // two wide: the lower row is black, so stripes
        looks("qqqbbwwwwwwww", 2, 9, 1, 6, 2);
        looks("qqqbwwbwwwwww", 2, 9, 2, 8, 2);
        looks("qqqwbbwwwwwww", 2, 13, 2, 8, 2);
        looks("qwwqwwwqwbbbw", 3, 13, 1, 8, 3);
        // two legs that hang together above alone, below alone, at the left, at the right
        looks("qqqbwbbqbwbwwwwww", 5, 17, 1, 12, 5);
        looks("qqqbbbwqbwbwwwwww", 5, 17, 1, 12, 5);
        looks("qqqbbbwwqbbwwwwww", 5, 13, 1, 12, 5);
        looks("qqqbbwbwqbbwwwwww", 5, 13, 1, 12, 5);
        // a snake: stripes, and cells between them at their ends by turns
        QuarterWords q = with("s");
        int[] ends = {7, 0, 7};
        for (int i = 0; i < 3; i++) {
            text(q, cell(ends[i], 2 * i + 1)).put(1);
            q.join(0, 1);
            due("snake's parts", q.look(0, 2), 3 - i);
            due("snake's rim", q.look(0, 3), 72);
        }
        QuarterWords busy = busy();
        String before = state(busy);
        for (int picture : NO_PICTURES) {
            due("look at unknown", busy.look(picture, 0), UNKNOWN);
            due("look at unknown outside", busy.look(picture, 9), UNKNOWN);
        }
        int[] outside = {-1, 5, Integer.MIN_VALUE, Integer.MAX_VALUE};
        for (int what : outside) {
            due("look outside", busy.look(0, what), OUTSIDE);
        }
        same("refused look", busy, before);
    }

    private static void least(String told, String want) {
        QuarterWords q = with("", "", told);
        for (int i = 0; i < want.length(); i++) {
            due("letter " + i + " of " + told, q.letter(2, i), want.charAt(i));
        }
        due("no letter behind " + told, q.letter(2, want.length()), NONE);
        due("letters of " + told, q.look(2, 1), want.length());
    }

    private static void promise16() {
        least("w", "w");
        least("qwwww", "w");
        least("qbbbb", "b");
        least("qgggg", "g");
        least("qssss", "s");
        least("qbwgs", "qbwgs");
        least("qgsgs", "qgsgs");
        least("qqbbbbwqggqwwwwgs", "qbwqggwgs");
        least("qqqbwwbwwwwww", "qqgwwwwww");
        least("qqqbbwwwwwwww", "qqswwwwww");
        least("qqqwbbwwwwwww", "qqqwbbwwwwwww");
        least(cell(2, 5), "qwwqwqwwbwwww");
        least(cell(5, 2), "qwqwwqwbwwwww");
        QuarterWords q = busy();
        for (int picture : NO_PICTURES) {
            due("letter of unknown", q.letter(picture, 0), UNKNOWN);
        }
        int[] none = {-1, 5, 84, 85, 86, Integer.MIN_VALUE, Integer.MAX_VALUE};
        for (int i : none) {
            due("letter " + i, q.letter(0, i), NONE);
        }
        q = with("b", "g");
        q.less(0, 1);
        due("longest", q.look(0, 1), 85);
        due("longest's last", q.letter(0, 84), 'w');
        due("longest's last but one", q.letter(0, 83), 'b');
        due("none behind the longest", q.letter(0, 85), NONE);
    }

    private static void at(QuarterWords q, int cell, int black, int depth, int letter) {
        due("black at " + cell, q.at(0, cell, 0), black);
        due("depth at " + cell, q.at(0, cell, 1), depth);
        due("letter at " + cell, q.at(0, cell, 2), letter);
    }

    private static void promise17() {
        QuarterWords q = with("qbqwqbwwwgswg", "w");
        at(q, 0, 1, 1, 'b');
        at(q, 27, 1, 1, 'b');
        at(q, 4, 0, 2, 'w');
        at(q, 6, 1, 3, 'b');
        at(q, 7, 0, 3, 'w');
        at(q, 15, 0, 3, 'w');
        at(q, 16 + 4, 1, 2, 'g');
        at(q, 16 + 5, 0, 2, 'g');
        at(q, 16 + 6, 1, 2, 's');
        at(q, 24 + 6, 0, 2, 's');
        at(q, 32, 0, 1, 'w');
        at(q, 63, 1, 1, 'g');
        at(q, 62, 0, 1, 'g');
        due("depth of the whole", q.at(1, 63, 1), 0);
        due("letter of the whole", q.at(1, 0, 2), 'w');
        String before = state(q);
        for (int picture : NO_PICTURES) {
            due("at unknown picture", q.at(picture, 0, 0), UNKNOWN);
        }
        for (int cell : NO_CELLS) {
            due("at unknown cell", q.at(0, cell, 9), UNKNOWN);
        }
        int[] outside = {-1, 3, Integer.MIN_VALUE, Integer.MAX_VALUE};
        for (int what : outside) {
            due("at outside", q.at(0, 0, what), OUTSIDE);
        }
        same("refused at", q, before);
    }

    private static void promise18() {
        int[] xs = {1, 7, 6, 0, 6, 7, 1, 0};
        int[] ys = {0, 1, 7, 6, 0, 6, 7, 1};
        for (int way = 0; way < 8; way++) {
            due("alike by " + way, with(cell(1, 0), cell(xs[way], ys[way])).alike(0, 1), 1 << way);
        }
        due("alike of white", with().alike(0, 2), 255);
        due("alike of unlike", with("b").alike(0, 2), 0);
        due("alike of one", with("s").alike(0, 0), 1 | 1 << 4);
        due("alike of a chequer", with("g").alike(0, 0), 1 | 4 | 1 << 5 | 1 << 7);
        QuarterWords q = busy();
        String before = state(q);
        for (int picture : NO_PICTURES) {
            due("alike of unknown", q.alike(picture, 0), UNKNOWN);
            due("alike of unknown", q.alike(0, picture), UNKNOWN);
        }
        q.alike(0, 1);
        same("alike", q, before);
    }

    private static void near(QuarterWords q, int one, int other, int unlike, int way) {
        due("near's number", q.near(one, other, 0), unlike);
        due("near's way", q.near(one, other, 1), way);
    }

    private static void promise19() {
        near(with(), 0, 1, 0, 0);
        near(with("b"), 0, 1, 64, 0);
        near(with(cell(1, 0), cell(7, 1)), 0, 1, 0, 1);
        near(with(cell(1, 0), cell(7, 1)), 1, 0, 0, 3);
        near(with(cell(1, 0), cell(1, 7)), 0, 1, 0, 6);
        near(with(cell(1, 0), cell(2, 0)), 0, 1, 2, 0);
        near(with("qbwww", "qwbbb"), 0, 1, 32, 1);
        near(with("qbwww"), 0, 0, 0, 0);
        QuarterWords q = busy();
        String before = state(q);
        for (int picture : NO_PICTURES) {
            due("near of unknown", q.near(picture, 0, 0), UNKNOWN);
            due("near of unknown", q.near(0, picture, 9), UNKNOWN);
        }
        for (int what : NO_BITS) {
            due("near outside", q.near(0, 1, what), OUTSIDE);
        }
        q.near(0, 1, 0);
        same("near", q, before);
    }

    private static void promise20() {
        QuarterWords q = with("qbwwb", "qwbww", cell(7, 7));
        String before = state(q);
        // qbwwb joined with qwbww hangs together
        due("two parts", q.judge(1, 802), NONE);
        due("joined", q.judge(2, 101802), 1);
        due("joined", q.judge(3, 101801900), NONE);
        due("met", q.judge(2, 201801), 1);
        due("lessened by a corner", q.judge(2, 302802), NONE);
        due("lessened away", q.judge(4, 320_310_302_801L), NONE);
        due("turned", q.judge(4, 401_401_401_901L), 3);
        due("turned into it", q.judge(4, 401_201_901_800L), NONE);
        due("not turned into it", q.judge(4, 501_201_901_802L), 3);
        due("flipped", q.judge(3, 501_201_801L), NONE);
        due("flipped away", q.judge(3, 501_210_801L), NONE);
        due("halved", q.judge(3, 603_601_912L), 2);
        due("grown", q.judge(2, 720_912), 1);
        due("grown corner", q.judge(4, 723_723_723_812L), 3);
        due("alike of one twice", q.judge(1, 911), NONE);
        QuarterWords cells = with(cell(1, 0), cell(7, 1), cell(6, 0));
        due("turned, it meets the one", cells.judge(3, 400_201_801L), NONE);
        due("turned, it meets not the other", cells.judge(3, 400_202_801L), 2);
        due("flipped, it meets the other", cells.judge(3, 500_202_801L), NONE);
        due("flipped, it meets not the one", cells.judge(3, 500_201_801L), 2);
        due("parts of none", q.judge(1, 800), NONE);
        long[] never = {0, 103, 130, 100, 111, 203, 222, 303, 330, 311, 403, 411, 410, 503, 512,
            604, 630, 704, 730, 830, 803, 903, 930, 1, 999};
        for (long doing : never) {
            due("judge " + doing, q.judge(1, doing), 0);
            due("judge at the second place " + doing, q.judge(2, 400_000 + doing), 1);
        }
        due("figures ahead are 0", q.judge(2, 400), 0);
        same("judge", q, before);
        promise20Outside(q);
        same("refused judge", q, before);
    }

    private static void promise20Outside(QuarterWords q) {
        int[] outside = {0, 5, -1, Integer.MIN_VALUE, Integer.MAX_VALUE};
        for (int n : outside) {
            due("judge of " + n, q.judge(n, 0), OUTSIDE);
        }
        long most = 1;
        for (int n = 1; n <= 4; n++) {
            most *= 1000;
            due("judge of too many figures", q.judge(n, most), OUTSIDE);
            due("judge of as many figures", q.judge(n, most - 1), 0);
            due("judge below 0", q.judge(n, -1), OUTSIDE);
            due("judge far below 0", q.judge(n, Long.MIN_VALUE), OUTSIDE);
            due("judge far above", q.judge(n, Long.MAX_VALUE), OUTSIDE);
        }
    }

    private static void promise21() {
        QuarterWords q = new QuarterWords();
        for (int size = 1; size <= 6; size++) {
            due("see", q.see(63, 1), size);
        }
        due("seen", q.count(5), 6);
        String before = state(q);
        due("see when full", q.see(0, 0), FULL);
        due("see outside when full", q.see(0, 2), OUTSIDE);
        due("see unknown when full", q.see(64, 2), UNKNOWN);
        same("refused see", q, before);
        q = new QuarterWords();
        before = state(q);
        for (int cell : NO_CELLS) {
            due("see unknown", q.see(cell, 0), UNKNOWN);
        }
        for (int black : NO_BITS) {
            due("see outside", q.see(0, black), OUTSIDE);
        }
        same("refused see", q, before);
    }

    private static void promise22() {
        QuarterWords q = new QuarterWords();
        due("unsee of nothing", q.unsee(), 0);
        q.see(0, 1);
        q.see(0, 0);
        due("leaves that can not be", q.leaves(0), 0);
        due("unsee", q.unsee(), 2);
        due("leaves behind unsee", q.leaves(0), 256);
        due("seen behind unsee", q.count(5), 0);
        due("see behind unsee", q.see(0, 1), 1);
    }

    private static void promise23() {
        int[][] cells = {{0, 3, 1111, 1, 2111}, {1, 2, 1111, 2, 2111}, {8, 1, 1111, 3, 2111},
            {9, 2, 1111, 2, 2111}, {4, 3, 1111, 1, 1211}, {32, 3, 1111, 1, 1121},
            {36, 3, 1111, 1, 1112}, {60, 1, 1111, 3, 1112}, {63, 2, 1111, 2, 1112}};
        for (int[] c : cells) {
            QuarterWords q = new QuarterWords();
            q.see(c[0], 1);
            due("leaves by black " + c[0], q.leaves(0), 64 * c[1]);
            due("first by black " + c[0], q.leaves(1), c[2]);
            q.unsee();
            q.see(c[0], 0);
            due("leaves by white " + c[0], q.leaves(0), 64 * c[3]);
            due("first by white " + c[0], q.leaves(1), c[4]);
        }
        QuarterWords q = new QuarterWords();
        q.see(0, 1);
        q.see(8, 0);
        due("chequered or striped", q.leaves(0), 2 * 64);
        due("chequered is first", q.leaves(1), 3111);
        q.see(1, 1);
        due("striped", q.leaves(1), 4111);
        q.see(63, 0);
        q.see(62, 1);
        due("white at 63, black at 62", q.leaves(0), 0);
        due("none", q.leaves(1), NONE);
        for (int what : NO_BITS) {
            due("leaves outside", q.leaves(what), OUTSIDE);
        }
    }

    private static void share(QuarterWords q, int picture, int above, int below) {
        due("share above of " + picture, q.share(picture, true), above);
        due("share below of " + picture, q.share(picture, false), below);
    }

    private static void promise24() {
        QuarterWords q = with("qqqbbbwwwwwww", "qqqbwbwwwwwww", cell(0, 0));
        share(q, 0, 11, 6);
        share(q, 1, 5, 6);
        share(q, 2, 1, 3);
        q = with("qbwgs", "b");
        share(q, 0, 16, 1);
        share(q, 1, 48, 1);
        share(q, 2, 0, 1);
        share(with(cell(0, 0), cell(0, 0)), 1, 1, 2);
        q = busy();
        String before = state(q);
        for (int picture : NO_PICTURES) {
            share(q, picture, UNKNOWN, UNKNOWN);
        }
        q.share(0, true);
        same("share", q, before);
    }

    private static void rests(QuarterWords q, int one, int other, int number, int first) {
        due("rests", q.rests(one, other, 0), number);
        due("first rest", q.rests(one, other, 1), first);
    }

    private static void promise25() {
        rests(with(), 0, 1, 4, 0);
        // cell 1,0 turned is 7,1; the third has that: to be turned is better
        rests(with(cell(1, 0), "", cell(7, 1)), 0, 1, 2, 10);
        rests(with(cell(1, 0), "", cell(7, 1)), 1, 0, 2, 1);
        rests(with(cell(1, 0), cell(1, 0), cell(7, 1)), 0, 1, 3, 1);
        rests(with(cell(1, 0), cell(1, 0), "b"), 0, 1, 2, 1);
        rests(with(cell(1, 0), cell(1, 0), cell(1, 0)), 0, 1, 3, 0);
        rests(with(cell(1, 0), cell(2, 0), "qqqwbwwqbwwwwwwww"), 0, 1, 1, 0);
        rests(with(cell(1, 0), cell(2, 0), "qwqwqwwwbwqwbwwww"), 0, 1, 1, 11);
        QuarterWords q = busy();
        String before = state(q);
        for (int picture : NO_PICTURES) {
            due("rests of unknown", q.rests(picture, 0, 0), UNKNOWN);
            due("rests of unknown", q.rests(0, picture, 9), UNKNOWN);
            due("rests of unknown twice", q.rests(picture, picture, 0), UNKNOWN);
        }
        due("rests of one", q.rests(1, 1, 0), OUTSIDE);
        for (int what : NO_BITS) {
            due("rests outside", q.rests(0, 1, what), OUTSIDE);
        }
        q.rests(0, 1, 0);
        same("rests", q, before);
    }

    private static void fades(QuarterWords q, int v, int x, int above, int below) {
        due("fades above " + v + " " + x, q.fades(0, v, x, true), above);
        due("fades below " + v + " " + x, q.fades(0, v, x, false), below);
    }

    private static void promise26() {
        QuarterWords q = with("b");
        fades(q, 0, 10, 1, 1);
        fades(q, 1, 10, 0, 1);
        fades(q, 64, 0, 1, 1);
        fades(q, 64, 1, 6561, 10000);
        fades(q, 64, 5, 1, 16);
        fades(q, 49, 5, 1, 16);
        fades(q, 48, 5, 5, 16);
        fades(q, 1, 1, 9999, 10000);
        fades(q, 16, 3, 9919, 10000);
        q = with("qbwgs");
        fades(q, 33, 0, 0, 1);
        fades(q, 32, 0, 1, 1);
        fades(q, 32, 2, 64, 125);
        fades(q, 16, 2, 116, 125);
        fades(q, 17, 2, 96, 125);
        q = busy();
        String before = state(q);
        for (int picture : NO_PICTURES) {
            due("fades of unknown", q.fades(picture, -1, 0, true), UNKNOWN);
            due("fades of unknown", q.fades(picture, 0, 0, false), UNKNOWN);
        }
        int[] noV = {-1, 65, Integer.MIN_VALUE, Integer.MAX_VALUE};
        for (int v : noV) {
            due("fades by v outside", q.fades(0, v, 0, true), OUTSIDE);
            due("fades by v outside", q.fades(0, v, 0, false), OUTSIDE);
        }
        int[] noX = {-1, 11, Integer.MIN_VALUE, Integer.MAX_VALUE};
        for (int x : noX) {
            due("fades by x outside", q.fades(0, 0, x, true), OUTSIDE);
        }
        q.fades(0, 1, 1, true);
        same("fades", q, before);
    }

    private static void promise27() {
        QuarterWords q = new QuarterWords();
        due("seed", q.seed(Long.MIN_VALUE), 0);
        due("seed", q.seed(Long.MAX_VALUE), Long.MIN_VALUE);
        due("seed", q.seed(-1), Long.MAX_VALUE);
        due("seed", q.seed(0), -1);
    }

    /** The first seed by which the next lot is this. */
    private static long seedOf(int lot) {
        for (long seed = 0; seed < 100000; seed++) {
            long x = seed * 6364136223846793005L + 1442695040888963407L;
            if ((x >>> 33) % 36 == lot) {
                return seed;
            }
        }
        return -1;
    }

    private static void promise28() {
        int[] areas = {32, 16, 8};
        int all = 56;
        // each picture is within the one before it
        for (int lot = 0; lot < 36; lot++) {
            QuarterWords q = with("qbbww", "qbwww", "qqwwbbwww");
            for (int picture = 0; picture < 3; picture++) {
                due("area ahead of years", q.look(picture, 0), areas[picture]);
            }
            String before = state(q);
            q.seed(seedOf(lot));
            due("year of lot " + lot, q.years(1), all + change(lot));
            due("seed behind a year", (q.seed(0) >>> 33) % 36, lot);
            same("years", q, before);
        }
        promise28OfMany();
        QuarterWords q = with("b");
        int[] outside = {0, 31, -1, Integer.MIN_VALUE, Integer.MAX_VALUE};
        q.seed(9);
        for (int m : outside) {
            due("years outside", q.years(m), OUTSIDE);
        }
        due("seed behind refused years", q.seed(5), 9);
        q = with("w");
        q.years(30);
        long seed = 0;
        for (int i = 0; i < 30; i++) {
            seed = seed * 6364136223846793005L + 1442695040888963407L;
        }
        due("seed behind 30 years", q.seed(0), seed);
    }

    /** Years are what acts on another object, by the same lots, come to. */
    private static void promise28OfMany() {
        for (int run = 0; run < 200; run++) {
            QuarterWords q = with("qbwgs", "qwqbqwbwwwsbg", "qgqbwwwbs");
            QuarterWords acted = with("qbwgs", "qwqbqwbwwwsbg", "qgqbwwwbs");
            int m = 1 + run % 30;
            q.seed(run);
            long seed = run;
            int sum = 0;
            for (int year = 0; year < m; year++) {
                seed = seed * 6364136223846793005L + 1442695040888963407L;
                act(acted, (int) ((seed >>> 33) % 36));
                sum += acted.count(1);
            }
            due("years by acts", q.years(m), sum);
            due("seed by acts", q.seed(0), seed);
        }
    }

    private static void act(QuarterWords q, int lot) {
        if (lot < 27) {
            pair(q, lot / 9, lot % 9 / 3, lot % 3);
        } else if (lot < 30) {
            q.turn(lot - 27);
        } else if (lot < 33) {
            q.halve(lot - 30, 0);
        } else {
            q.grow(lot - 33, 0);
        }
    }

    private static int change(int lot) {
        // joined, met, less of pictures of 32, 16 and 8 cells, each within the one before
        int[] changes = {0, 0, 0, 16, 0, 0, 24, 8, 0,
            0, -16, -24, 0, 0, -8, 0, 0, 0,
            0, -16, -8, -16, 0, -8, -8, -8, 0,
            0, 0, 0,
            -24, -12, -6,
            32, 48, 24};
        return changes[lot];
    }

    private static void promise29() {
        QuarterWords q = with("qbwgs", "b");
        String before = state(q);
        due("keep", q.keep(0), 96);
        due("keep", q.keep(1), 96);
        for (int slot : NO_SLOTS) {
            due("keep unknown", q.keep(slot), UNKNOWN);
        }
        same("keep", q, before);
        q.flip(0);
        due("keep over another", text(q, "w").put(1), 0);
        due("keep over another", q.keep(1), 32);
        due("the one slot", q.again(0), 96);
        due("the other slot", q.again(1), 32);
    }

    private static void promise30() {
        QuarterWords q = busy();
        String before = state(q);
        due("again of nothing", q.again(0), STATE);
        due("again of nothing", q.again(1), STATE);
        for (int slot : NO_SLOTS) {
            due("again unknown", q.again(slot), UNKNOWN);
        }
        same("refused again", q, before);
        long[] black = {q.black(0), q.black(1), q.black(2)};
        q.keep(1);
        due("again of the other", q.again(0), STATE);
        q.join(0, 1);
        q.less(1, 2);
        q.halve(2, 1);
        due("again", q.again(1), 88);
        for (int picture = 0; picture < 3; picture++) {
            due("gone on from", q.black(picture), black[picture]);
        }
        due("no acts behind again", q.count(4), 0);
        due("no undo behind again", q.undo(), STATE);
        due("the text stays", q.count(0), 3);
        due("what was seen stays", q.count(5), 2);
        due("the seed stays", q.seed(0), 77);
        q.turn(0);
        due("again twice", q.again(1), 88);
        due("gone on from twice", q.black(0), black[0]);
    }

    private static void promise31() {
        QuarterWords q = with("qbwwb", "qwbww", "qbbww");
        q.see(1, 1);
        text(q, "qq");
        int[] counts = {2, 32 + 16 + 32, 48, 0, 3, 1};
        for (int what = 0; what < 6; what++) {
            due("count " + what, q.count(what), counts[what]);
        }
        for (int picture = 0; picture < 3; picture++) {
            QuarterWords alone = new QuarterWords();
            text(alone, "qbwww").put(picture);
            due("in any", alone.count(2), 16);
            due("in all three", alone.count(3), 0);
        }
        q.less(1, 2);
        q.join(1, 0);
        due("in all three", q.count(3), 16);
        due("in any", q.count(2), 48);
        String before = state(q);
        int[] outside = {-1, 6, Integer.MIN_VALUE, Integer.MAX_VALUE};
        for (int what : outside) {
            due("count outside", q.count(what), OUTSIDE);
        }
        same("count", q, before);
    }

    public static void main(String[] args) {
        promise01();
        promise02();
        promise03();
        promise04();
        promise05();
        promise06();
        promise07();
        promise08();
        promise09();
        promise10();
        promise11();
        promise12();
        promise13();
        promise14();
        promise15();
        promise16();
        promise17();
        promise18();
        promise19();
        promise20();
        promise21();
        promise22();
        promise23();
        promise24();
        promise25();
        promise26();
        promise27();
        promise28();
        promise29();
        promise30();
        promise31();
        System.out.println(wrong == 0 ? "promises: all as due" : wrong + " answers are not as due");
        if (wrong != 0) {
            System.exit(1);
        }
    }
}
