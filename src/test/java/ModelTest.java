import java.util.ArrayList;
import java.util.Arrays;
import java.util.List;
import java.util.Random;

/**
 * Random runs of calls on the class and on a slow model, which holds pictures as rows of cells and
 * words as texts, and follows the document's words as plainly as it can.
 */
public final class ModelTest {
    private static final int RUNS = 2000, CALLS = 512;
    private static int wrong = 0;

    /** The model: nothing of it is shared with the class. */
    static final class Model {
        static final int UNKNOWN = -1, OUTSIDE = -2, STATE = -3, FULL = -4, NONE = -9;
        StringBuilder text = new StringBuilder();
        boolean[][][] pictures = new boolean[3][8][8];
        List<boolean[][][]> acts = new ArrayList<>();
        List<int[]> seen = new ArrayList<>();
        boolean[][][][] slots = new boolean[2][][][];
        long seed = 0;

        static boolean[][] copy(boolean[][] p) {
            boolean[][] c = new boolean[8][];
            for (int y = 0; y < 8; y++) {
                c[y] = p[y].clone();
            }
            return c;
        }

        static boolean[][][] copy(boolean[][][] all) {
            return new boolean[][][] {copy(all[0]), copy(all[1]), copy(all[2])};
        }

        static int area(boolean[][] p) {
            int n = 0;
            for (boolean[] row : p) {
                for (boolean b : row) {
                    n += b ? 1 : 0;
                }
            }
            return n;
        }

        int areas() {
            return area(pictures[0]) + area(pictures[1]) + area(pictures[2]);
        }

        static boolean no(int picture) {
            return picture < 0 || picture > 2;
        }

        static boolean leaf(char letter, int x, int y) {
            switch (letter) {
                case 'b': return true;
                case 'w': return false;
                case 'g': return (x + y) % 2 == 0;
                default: return y % 2 == 0;
            }
        }

        /** Where the word of a square ends; below 0: the fault's place, less 1000. */
        static int read(String s, int i, int x, int y, int width, boolean[][] p) {
            if (i >= s.length()) {
                return s.length() - 1000;
            }
            char c = s.charAt(i);
            if (c == 'q' && width > 1) {
                int half = width / 2;
                int next = i + 1;
                for (int k = 0; k < 4 && next >= 0; k++) {
                    next = read(s, next, x + (k % 2) * half, y + (k / 2) * half, half, p);
                }
                return next;
            }
            if (c != 'b' && c != 'w' && c != 'g' && c != 's') {
                return i - 1000;
            }
            for (int yy = y; yy < y + width; yy++) {
                for (int xx = x; xx < x + width; xx++) {
                    p[yy][xx] = leaf(c, xx, yy);
                }
            }
            return i + 1;
        }

        int fault(boolean[][] p) {
            int end = read(text.toString(), 0, 0, 0, 8, p);
            if (end < 0) {
                return end + 1000;
            }
            return end < text.length() ? end : NONE;
        }

        void remember() {
            acts.add(copy(pictures));
            if (acts.size() > 14) {
                acts.remove(0);
            }
        }

        static boolean[][] turned(boolean[][] p) {
            boolean[][] t = new boolean[8][8];
            for (int y = 0; y < 8; y++) {
                for (int x = 0; x < 8; x++) {
                    t[x][7 - y] = p[y][x];
                }
            }
            return t;
        }

        static boolean[][] flipped(boolean[][] p) {
            boolean[][] t = new boolean[8][8];
            for (int y = 0; y < 8; y++) {
                for (int x = 0; x < 8; x++) {
                    t[y][7 - x] = p[y][x];
                }
            }
            return t;
        }

        static boolean[][] halved(boolean[][] p, int q) {
            boolean[][] t = new boolean[8][8];
            for (int y = 0; y < 4; y++) {
                for (int x = 0; x < 4; x++) {
                    int n = 0;
                    for (int k = 0; k < 4; k++) {
                        n += p[2 * y + k / 2][2 * x + k % 2] ? 1 : 0;
                    }
                    t[y + (q >= 2 ? 4 : 0)][x + (q % 2 == 1 ? 4 : 0)] = n > 1;
                }
            }
            return t;
        }

        static boolean[][] grown(boolean[][] p, int q) {
            boolean[][] t = new boolean[8][8];
            for (int y = 0; y < 8; y++) {
                for (int x = 0; x < 8; x++) {
                    t[y][x] = p[y / 2 + (q >= 2 ? 4 : 0)][x / 2 + (q % 2 == 1 ? 4 : 0)];
                }
            }
            return t;
        }

        static boolean[][] pair(int kind, boolean[][] a, boolean[][] b) {
            boolean[][] t = new boolean[8][8];
            for (int y = 0; y < 8; y++) {
                for (int x = 0; x < 8; x++) {
                    t[y][x] = kind == 1 ? a[y][x] || b[y][x] : a[y][x] && b[y][x] == (kind == 2);
                }
            }
            return t;
        }

        static int row(boolean[][] p) {
            int n = 0;
            for (int x = 7; x >= 0; x--) {
                n = 2 * n + (p[0][x] ? 1 : 0);
            }
            return n;
        }

        static String least(boolean[][] p, int x, int y, int width) {
            for (char c : "bwgs".toCharArray()) {
                boolean is = true;
                for (int yy = y; yy < y + width; yy++) {
                    for (int xx = x; xx < x + width; xx++) {
                        is &= p[yy][xx] == leaf(c, xx, yy);
                    }
                }
                if (is) {
                    return "" + c;
                }
            }
            int h = width / 2;
            return "q" + least(p, x, y, h) + least(p, x + h, y, h) + least(p, x, y + h, h)
                + least(p, x + h, y + h, h);
        }

        static boolean in(int x, int y) {
            return x >= 0 && y >= 0 && x < 8 && y < 8;
        }

        static void fill(boolean[][] p, int x, int y) {
            if (in(x, y) && p[y][x]) {
                p[y][x] = false;
                fill(p, x + 1, y);
                fill(p, x - 1, y);
                fill(p, x, y + 1);
                fill(p, x, y - 1);
            }
        }

        static int parts(boolean[][] p) {
            boolean[][] rest = copy(p);
            int n = 0;
            for (int cell = 0; cell < 64; cell++) {
                if (rest[cell / 8][cell % 8]) {
                    n++;
                    fill(rest, cell % 8, cell / 8);
                }
            }
            return n;
        }

        static int rim(boolean[][] p) {
            int[] dx = {1, -1, 0, 0};
            int[] dy = {0, 0, 1, -1};
            int n = 0;
            for (int cell = 0; cell < 64; cell++) {
                for (int k = 0; k < 4 && p[cell / 8][cell % 8]; k++) {
                    int x = cell % 8 + dx[k];
                    int y = cell / 8 + dy[k];
                    n += in(x, y) && p[y][x] ? 0 : 1;
                }
            }
            return n;
        }

        static int blocks(boolean[][] p, int x, int y, int width) {
            boolean all = true;
            for (int yy = y; yy < y + width; yy++) {
                for (int xx = x; xx < x + width; xx++) {
                    all &= p[yy][xx];
                }
            }
            if (all || width == 1) {
                return all ? 1 : 0;
            }
            int h = width / 2;
            return blocks(p, x, y, h) + blocks(p, x + h, y, h) + blocks(p, x, y + h, h)
                + blocks(p, x + h, y + h, h);
        }

        static int unlike(boolean[][] a, boolean[][] b, int way) {
            boolean[][] t = way >= 4 ? flipped(a) : a;
            for (int i = 0; i < way % 4; i++) {
                t = turned(t);
            }
            int n = 0;
            for (int cell = 0; cell < 64; cell++) {
                n += t[cell / 8][cell % 8] != b[cell / 8][cell % 8] ? 1 : 0;
            }
            return n;
        }

        static int alike(boolean[][] a, boolean[][] b) {
            int bits = 0;
            for (int way = 0; way < 8; way++) {
                bits += unlike(a, b, way) == 0 ? 1 << way : 0;
            }
            return bits;
        }

        int pairCall(int kind, int one, int other) {
            if (no(one) || no(other)) {
                return UNKNOWN;
            }
            if (one == other) {
                return OUTSIDE;
            }
            remember();
            pictures[one] = pair(kind, pictures[one], pictures[other]);
            return area(pictures[one]);
        }

        int sizeCall(int kind, int picture, int quarter) {
            if (no(picture) || quarter < 0 || quarter > 3) {
                return UNKNOWN;
            }
            remember();
            pictures[picture] = kind == 6 ? halved(pictures[picture], quarter)
                : grown(pictures[picture], quarter);
            return area(pictures[picture]);
        }

        int put(int picture) {
            if (no(picture)) {
                return UNKNOWN;
            }
            boolean[][] p = new boolean[8][8];
            if (fault(p) != NONE) {
                return STATE;
            }
            remember();
            pictures[picture] = p;
            return area(p);
        }

        int undo() {
            if (acts.isEmpty()) {
                return STATE;
            }
            pictures = acts.remove(acts.size() - 1);
            return acts.size();
        }

        int look(int picture, int what) {
            if (no(picture)) {
                return UNKNOWN;
            }
            boolean[][] p = pictures[picture];
            switch (what) {
                case 0: return area(p);
                case 1: return least(p, 0, 0, 8).length();
                case 2: return parts(p);
                case 3: return rim(p);
                case 4: return blocks(p, 0, 0, 8);
                default: return OUTSIDE;
            }
        }

        int at(int picture, int cell, int what) {
            if (no(picture) || cell < 0 || cell > 63) {
                return UNKNOWN;
            }
            if (what < 0 || what > 2) {
                return OUTSIDE;
            }
            boolean[][] p = pictures[picture];
            int x = 0;
            int y = 0;
            int width = 8;
            while (least(p, x, y, width).length() > 1) {
                width /= 2;
                x += cell % 8 >= x + width ? width : 0;
                y += cell / 8 >= y + width ? width : 0;
            }
            int depth = width == 8 ? 0 : width == 4 ? 1 : width == 2 ? 2 : 3;
            return what == 0 ? (p[cell / 8][cell % 8] ? 1 : 0) : what == 1 ? depth
                : least(p, x, y, width).charAt(0);
        }

        int near(int one, int other, int what) {
            if (no(one) || no(other)) {
                return UNKNOWN;
            }
            if (what < 0 || what > 1) {
                return OUTSIDE;
            }
            int best = 0;
            for (int way = 7; way >= 0; way--) {
                if (unlike(pictures[one], pictures[other], way)
                    <= unlike(pictures[one], pictures[other], best)) {
                    best = way;
                }
            }
            return what == 1 ? best : unlike(pictures[one], pictures[other], best);
        }

        /** What a doing leaves; null: it can not be. */
        static boolean[][][] doing(boolean[][][] all, String figures) {
            int k = figures.charAt(0) - '0';
            int a = figures.charAt(1) - '0';
            int b = figures.charAt(2) - '0';
            boolean[][][] c = copy(all);
            if (k >= 1 && k <= 3 && a < 3 && b < 3 && a != b) {
                c[a] = pair(k, c[a], c[b]);
            } else if (k == 4 && a == 0 && b < 3) {
                c[b] = turned(c[b]);
            } else if (k == 5 && a == 0 && b < 3) {
                c[b] = flipped(c[b]);
            } else if (k == 6 && a < 3 && b < 4) {
                c[a] = halved(c[a], b);
            } else if (k == 7 && a < 3 && b < 4) {
                c[a] = grown(c[a], b);
            } else if (!(k == 8 && a < 3 && parts(c[a]) >= b)
                && !(k == 9 && a < 3 && b < 3 && alike(c[a], c[b]) != 0)) {
                return null;
            }
            return c;
        }

        int judge(int n, long row) {
            if (n < 1 || n > 4 || row < 0 || Long.toString(row).length() > 3 * n) {
                return OUTSIDE;
            }
            String figures = "000000000000" + row;
            figures = figures.substring(figures.length() - 3 * n);
            boolean[][][] all = pictures;
            for (int i = 0; i < n; i++) {
                all = doing(all, figures.substring(3 * i, 3 * i + 3));
                if (all == null) {
                    return i;
                }
            }
            return NONE;
        }

        int leaves(int what) {
            if (what < 0 || what > 1) {
                return OUTSIDE;
            }
            int n = 0;
            int first = NONE;
            for (int set = 255; set >= 0; set--) {
                int[] l = {set / 64, set / 16 % 4, set / 4 % 4, set % 4};
                boolean so = true;
                for (int[] s : seen) {
                    int x = s[0] % 8;
                    int y = s[0] / 8;
                    int quarter = x / 4 + 2 * (y / 4);
                    so &= leaf("bwgs".charAt(l[quarter]), x, y) == (s[1] == 1);
                }
                if (so) {
                    n++;
                    first = 1111 + 1000 * l[0] + 100 * l[1] + 10 * l[2] + l[3];
                }
            }
            return what == 0 ? n : first;
        }

        static int told(long above, long below, boolean upper) {
            for (long d = below; d > 1; d--) {
                if (above % d == 0 && below % d == 0) {
                    above /= d;
                    below /= d;
                    break;
                }
            }
            return (int) (upper ? above : below);
        }

        int share(int picture, boolean upper) {
            if (no(picture)) {
                return UNKNOWN;
            }
            int[][] orders = {{0, 1, 2}, {0, 2, 1}, {1, 0, 2}, {1, 2, 0}, {2, 0, 1}, {2, 1, 0}};
            int sum = 0;
            for (int[] order : orders) {
                boolean[][] p = new boolean[8][8];
                for (int k : order) {
                    boolean[][] next = pair(1, p, pictures[k]);
                    sum += k == picture ? area(next) - area(p) : 0;
                    p = next;
                }
            }
            return told(sum, 6, upper);
        }

        int gain(int me, int you, int mine, int yours) {
            boolean[][] a = mine == 1 ? turned(pictures[me]) : pictures[me];
            boolean[][] b = yours == 1 ? turned(pictures[you]) : pictures[you];
            return area(pair(2, a, pictures[3 - me - you])) - area(pair(2, a, b));
        }

        int rests(int one, int other, int what) {
            if (no(one) || no(other)) {
                return UNKNOWN;
            }
            if (one == other || what < 0 || what > 1) {
                return OUTSIDE;
            }
            List<Integer> rests = new ArrayList<>();
            for (int a = 0; a < 2; a++) {
                for (int b = 0; b < 2; b++) {
                    if (gain(one, other, 1 - a, b) <= gain(one, other, a, b)
                        && gain(other, one, 1 - b, a) <= gain(other, one, b, a)) {
                        rests.add(10 * a + b);
                    }
                }
            }
            return what == 0 ? rests.size() : rests.isEmpty() ? NONE : rests.get(0);
        }

        int fades(int picture, int v, int x, boolean upper) {
            if (no(picture)) {
                return UNKNOWN;
            }
            if (v < 0 || v > 64 || x < 0 || x > 10) {
                return OUTSIDE;
            }
            long above = 0;
            for (int lots = 0; lots < 10000; lots++) {
                int[] lot = {lots % 10, lots / 10 % 10, lots / 100 % 10, lots / 1000};
                int n = 0;
                for (int k = 0; k < 4; k++) {
                    n += lot[k] < x ? 0 : quarterArea(picture, k);
                }
                above += n >= v ? 1 : 0;
            }
            return told(above, 10000, upper);
        }

        int quarterArea(int picture, int quarter) {
            int n = 0;
            for (int cell = 0; cell < 64; cell++) {
                boolean here = cell % 8 / 4 + 2 * (cell / 32) == quarter;
                n += here && pictures[picture][cell / 8][cell % 8] ? 1 : 0;
            }
            return n;
        }

        int years(int m) {
            if (m < 1 || m > 30) {
                return OUTSIDE;
            }
            boolean[][][] c = copy(pictures);
            int sum = 0;
            for (int i = 0; i < m; i++) {
                seed = seed * 6364136223846793005L + 1442695040888963407L;
                int lot = (int) (Long.divideUnsigned(seed, 1L << 33) % 36);
                int a = lot % 9 / 3;
                int b = lot % 3;
                if (lot >= 33) {
                    c[lot - 33] = grown(c[lot - 33], 0);
                } else if (lot >= 30) {
                    c[lot - 30] = halved(c[lot - 30], 0);
                } else if (lot >= 27) {
                    c[lot - 27] = turned(c[lot - 27]);
                } else if (a != b) {
                    c[a] = pair(lot / 9 + 1, c[a], c[b]);
                }
                sum += area(c[0]) + area(c[1]) + area(c[2]);
            }
            return sum;
        }

        int count(int what) {
            int any = 0;
            int all = 0;
            for (int cell = 0; cell < 64; cell++) {
                int n = 0;
                for (boolean[][] p : pictures) {
                    n += p[cell / 8][cell % 8] ? 1 : 0;
                }
                any += n > 0 ? 1 : 0;
                all += n == 3 ? 1 : 0;
            }
            int[] counts = {text.length(), areas(), any, all, acts.size(), seen.size()};
            return what < 0 || what > 5 ? OUTSIDE : counts[what];
        }

        long black(int picture) {
            long bits = 0;
            for (int cell = 63; cell >= 0 && !no(picture); cell--) {
                bits = 2 * bits + (pictures[picture][cell / 8][cell % 8] ? 1 : 0);
            }
            return bits;
        }
    }

    private static final String[] NAMES = {"write", "wipe", "fault", "put", "join", "meet", "less",
        "turn", "flip", "halve", "grow", "undo", "black", "look", "letter", "at", "alike", "near",
        "judge", "see", "unsee", "leaves", "share", "rests", "fades", "seed", "years", "keep",
        "again", "count"};

    private static long ask(QuarterWords q, int call, int[] a, long w) {
        switch (NAMES[call]) {
            case "write": return q.write(a[0]);
            case "wipe": return q.wipe();
            case "fault": return q.fault();
            case "put": return q.put(a[0]);
            case "join": return q.join(a[0], a[1]);
            case "meet": return q.meet(a[0], a[1]);
            case "less": return q.less(a[0], a[1]);
            case "turn": return q.turn(a[0]);
            case "flip": return q.flip(a[0]);
            case "halve": return q.halve(a[0], a[1]);
            case "grow": return q.grow(a[0], a[1]);
            case "undo": return q.undo();
            case "black": return q.black(a[0]);
            case "look": return q.look(a[0], a[1]);
            case "letter": return q.letter(a[0], a[1]);
            case "at": return q.at(a[0], a[1], a[2]);
            case "alike": return q.alike(a[0], a[1]);
            case "near": return q.near(a[0], a[1], a[2]);
            case "judge": return q.judge(a[0], w);
            case "see": return q.see(a[0], a[1]);
            case "unsee": return q.unsee();
            case "leaves": return q.leaves(a[0]);
            case "share": return q.share(a[0], w % 2 == 0);
            case "rests": return q.rests(a[0], a[1], a[2]);
            case "fades": return q.fades(a[0], a[1], a[2], w % 2 == 0);
            case "seed": return q.seed(w);
            case "years": return q.years(a[0]);
            case "keep": return q.keep(a[0]);
            case "again": return q.again(a[0]);
            default: return q.count(a[0]);
        }
    }

    private static long model(Model m, int call, int[] a, long w) {
        switch (NAMES[call]) {
            case "write":
                if (a[0] < 0 || a[0] > 255) {
                    return Model.OUTSIDE;
                }
                return m.text.length() == 64 ? Model.FULL : m.text.append((char) a[0]).length();
            case "wipe":
                int length = m.text.length();
                m.text.setLength(0);
                return length;
            case "fault": return m.fault(new boolean[8][8]);
            case "put": return m.put(a[0]);
            case "join": return m.pairCall(1, a[0], a[1]);
            case "meet": return m.pairCall(2, a[0], a[1]);
            case "less": return m.pairCall(3, a[0], a[1]);
            case "turn":
            case "flip":
                if (Model.no(a[0])) {
                    return Model.UNKNOWN;
                }
                m.remember();
                m.pictures[a[0]] = NAMES[call].equals("turn") ? Model.turned(m.pictures[a[0]])
                    : Model.flipped(m.pictures[a[0]]);
                return Model.row(m.pictures[a[0]]);
            case "halve": return m.sizeCall(6, a[0], a[1]);
            case "grow": return m.sizeCall(7, a[0], a[1]);
            case "undo": return m.undo();
            case "black": return m.black(a[0]);
            case "look": return m.look(a[0], a[1]);
            case "letter":
                if (Model.no(a[0])) {
                    return Model.UNKNOWN;
                }
                String least = Model.least(m.pictures[a[0]], 0, 0, 8);
                return a[1] < 0 || a[1] >= least.length() ? Model.NONE : least.charAt(a[1]);
            case "at": return m.at(a[0], a[1], a[2]);
            case "alike":
                return Model.no(a[0]) || Model.no(a[1]) ? Model.UNKNOWN
                    : Model.alike(m.pictures[a[0]], m.pictures[a[1]]);
            case "near": return m.near(a[0], a[1], a[2]);
            case "judge": return m.judge(a[0], w);
            default: return modelOfRest(m, call, a, w);
        }
    }

    private static long modelOfRest(Model m, int call, int[] a, long w) {
        switch (NAMES[call]) {
            case "see":
                if (a[0] < 0 || a[0] > 63) {
                    return Model.UNKNOWN;
                }
                if (a[1] < 0 || a[1] > 1) {
                    return Model.OUTSIDE;
                }
                if (m.seen.size() == 6) {
                    return Model.FULL;
                }
                m.seen.add(new int[] {a[0], a[1]});
                return m.seen.size();
            case "unsee":
                int size = m.seen.size();
                m.seen.clear();
                return size;
            case "leaves": return m.leaves(a[0]);
            case "share": return m.share(a[0], w % 2 == 0);
            case "rests": return m.rests(a[0], a[1], a[2]);
            case "fades": return m.fades(a[0], a[1], a[2], w % 2 == 0);
            case "seed":
                long before = m.seed;
                m.seed = w;
                return before;
            case "years": return m.years(a[0]);
            case "keep":
                if (a[0] < 0 || a[0] > 1) {
                    return Model.UNKNOWN;
                }
                m.slots[a[0]] = Model.copy(m.pictures);
                return m.areas();
            case "again":
                if (a[0] < 0 || a[0] > 1) {
                    return Model.UNKNOWN;
                }
                if (m.slots[a[0]] == null) {
                    return Model.STATE;
                }
                m.pictures = Model.copy(m.slots[a[0]]);
                m.acts.clear();
                return m.areas();
            default: return m.count(a[0]);
        }
    }

    private static int number(Random r, int bound) {
        switch (r.nextInt(40)) {
            case 0: return -1 - r.nextInt(3);
            case 1: return bound + r.nextInt(3);
            case 2: return r.nextInt();
            default: return r.nextInt(bound);
        }
    }

    private static int[] bounds(String name) {
        switch (name) {
            case "halve":
            case "grow": return new int[] {3, 4, 1};
            case "look": return new int[] {3, 5, 1};
            case "letter": return new int[] {3, 90, 1};
            case "at": return new int[] {3, 64, 3};
            case "near":
            case "rests": return new int[] {3, 3, 2};
            case "judge": return new int[] {5, 1, 1};
            case "see": return new int[] {64, 2, 1};
            case "leaves":
            case "keep":
            case "again": return new int[] {2, 1, 1};
            case "fades": return new int[] {3, 65, 11};
            case "years": return new int[] {31, 1, 1};
            case "count": return new int[] {6, 1, 1};
            case "write": return new int[] {256, 1, 1};
            default: return new int[] {3, 3, 1};
        }
    }

    /** A row that is mostly of doings that can be, so that later places are reached. */
    private static long row(Random r, int n) {
        if (r.nextInt(12) == 0) {
            return r.nextLong() >> r.nextInt(64);
        }
        long row = 0;
        for (int i = 0; i < n && i < 4; i++) {
            int kind = 1 + r.nextInt(9);
            int second = kind == 4 || kind == 5 ? 0 : r.nextInt(3);
            int third = kind == 8 ? r.nextInt(4) : kind < 4 ? (second + 1 + r.nextInt(2)) % 3 : r.nextInt(3);
            row = 1000 * row + (r.nextInt(20) == 0 ? r.nextInt(1000) : 100 * kind + 10 * second + third);
        }
        return row;
    }

    private static String word(Random r, int depth) {
        if (depth < 3 && r.nextInt(3) > 0) {
            return "q" + word(r, depth + 1) + word(r, depth + 1) + word(r, depth + 1) + word(r, depth + 1);
        }
        return "" + "bwgs".charAt(r.nextInt(4));
    }

    private static void compare(String run, QuarterWords q, Model m, int call, int[] a, long w) {
        long got = ask(q, call, a, w);
        long want = model(m, call, a, w);
        if (got != want) {
            wrong++;
            System.out.println(run + ": " + NAMES[call] + Arrays.toString(a) + " " + w + " answered "
                + got + ", due is " + want);
        }
    }

    private static void run(int number) {
        Random r = new Random(number);
        QuarterWords q = new QuarterWords();
        Model m = new Model();
        String letters = "";
        for (int i = 0; i < CALLS && wrong < 20; i++) {
            int call = r.nextInt(NAMES.length);
            if (!letters.isEmpty()) {
                compare("run " + number, q, m, 0, new int[] {letters.charAt(0)}, 0);
                letters = letters.substring(1);
                continue;
            }
            if (r.nextInt(24) == 0) {
                compare("run " + number, q, m, 1, new int[1], 0);
                letters = word(r, 0);
                letters = r.nextInt(6) == 0 ? letters.substring(r.nextInt(letters.length())) : letters;
                continue;
            }
            int[] bounds = bounds(NAMES[call]);
            int[] a = {number(r, bounds[0]), number(r, bounds[1]), number(r, bounds[2])};
            long w = NAMES[call].equals("judge") ? row(r, a[0]) : r.nextLong();
            // a stray letter would spoil most texts, and a fade is dear in the model
            boolean rare = NAMES[call].equals("write") || NAMES[call].equals("wipe")
                || NAMES[call].equals("fades") || NAMES[call].equals("again");
            if (!rare || r.nextInt(4) == 0) {
                compare("run " + number, q, m, call, a, w);
            }
        }
        for (int picture = 0; picture < 3; picture++) {
            compare("end of run " + number, q, m, 12, new int[] {picture}, 0);
        }
    }

    public static void main(String[] args) {
        for (int number = 0; number < RUNS && wrong < 20; number++) {
            run(number);
        }
        System.out.println(wrong == 0 ? "model: all as due" : wrong + " answers are not as due");
        if (wrong != 0) {
            System.exit(1);
        }
    }
}
