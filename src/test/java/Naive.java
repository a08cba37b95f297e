import java.lang.reflect.Array;
import java.util.ArrayDeque;
import java.util.ArrayList;
import java.util.Arrays;
import java.util.Deque;
import java.util.HashMap;
import java.util.List;
import java.util.Map;

/**
 * The document once more, word by word and as slow as it likes: nothing is kept between calls,
 * blocks are mended by trying all places, sheets are real arrays. It shares no code with the class.
 */
final class Naive {
    static final int NONE = -1, BAD = -2, NOT = -3, FULL = -4;
    private static final Map<String, int[]> MENDED = new HashMap<>();
    private static final int[][] TIMES = timesTable();

    private final List<Integer> text = new ArrayList<>();
    private final List<Integer> name = new ArrayList<>();
    private final boolean[][] turned = new boolean[15][15];
    private final boolean[][] gone = new boolean[15][15];
    private final Deque<int[]> acts = new ArrayDeque<>();
    private final Object[] sheets = new Object[4];
    private int finding;

    // ---- the field

    static int times(int a, int b) {
        return TIMES[a][b];
    }

    private static int[][] timesTable() {
        int[][] table = new int[16][16];
        for (int a = 0; a < 16; a++) {
            for (int b = 0; b < 16; b++) {
                int sum = 0;
                int doubled = a;
                for (int bits = b; bits != 0; bits /= 2) {
                    if (bits % 2 == 1) {
                        sum ^= doubled;
                    }
                    doubled *= 2;
                    if (doubled >= 16) {
                        doubled ^= 19;
                    }
                }
                table[a][b] = sum;
            }
        }
        return table;
    }

    static int power(int k) {
        int x = 1;
        for (int i = 0; i < k; i++) {
            x = times(x, 2);
        }
        return x;
    }

    private static int by(int a, int b) {
        for (int x = 0; x < 16; x++) {
            if (times(x, b) == a) {
                return x;
            }
        }
        throw new IllegalStateException();
    }

    int field(int a, int b, int what) {
        if (a < 0 || a > 15 || b < 0 || b > 15 || what < 0 || what > 2) {
            return BAD;
        }
        if (what == 0) {
            return times(a, b);
        }
        if (what == 1) {
            return b == 0 ? NONE : by(a, b);
        }
        int x = 1;
        for (int i = 0; i < b; i++) {
            x = times(x, a);
        }
        return x;
    }

    // ---- texts

    int type(int which, int b) {
        if (which < 0 || which > 1 || b < 0 || b > 255) {
            return BAD;
        }
        List<Integer> list = which == 0 ? text : name;
        if (list.size() == (which == 0 ? 14 : 3)) {
            return FULL;
        }
        list.add(b);
        return list.size();
    }

    int wipe(int which) {
        if (which < 0 || which > 1) {
            return BAD;
        }
        List<Integer> list = which == 0 ? text : name;
        int had = list.size();
        list.clear();
        return had;
    }

    int undo(int which) {
        if (which < 0 || which > 1) {
            return BAD;
        }
        List<Integer> list = which == 0 ? text : name;
        if (list.isEmpty()) {
            return NOT;
        }
        list.remove(list.size() - 1);
        return list.size();
    }

    private String nameText() {
        StringBuilder s = new StringBuilder();
        for (int b : name) {
            s.append((char) b);
        }
        return s.toString();
    }

    int fault() {
        String s = nameText();
        List<String> names = List.of("low", "mid", "top");
        if (s.isEmpty() || names.contains(s)) {
            return NONE;
        }
        int longest = 0;
        for (String n : names) {
            for (int i = 0; i <= s.length(); i++) {
                if (n.startsWith(s.substring(0, i))) {
                    longest = Math.max(longest, i);
                }
            }
        }
        return longest;
    }

    private int level() {
        return Math.max(0, List.of("low", "mid", "top").indexOf(nameText()));
    }

    // ---- the mark

    private static int checks(int level) {
        return new int[] {2, 4, 6}[level];
    }

    private static int items(int level) {
        return new int[] {12, 10, 8}[level];
    }

    private boolean tooLong() {
        return 1 + 2 * text.size() > 3 * items(level());
    }

    /** Blocks by places; null if there is no mark. */
    private int[][] symbols() {
        if (tooLong()) {
            return null;
        }
        int[][] blocks = new int[3][14];
        List<Integer> all = new ArrayList<>();
        all.add(text.size());
        for (int b : text) {
            all.add(b / 16);
            all.add(b % 16);
        }
        while (all.size() < 3 * items(level())) {
            all.add(0);
        }
        for (int i = 0; i < all.size(); i++) {
            blocks[i % 3][i / 3] = all.get(i);
        }
        boolean[] unknown = new boolean[14];
        Arrays.fill(unknown, items(level()), 14, true);
        for (int b = 0; b < 3; b++) {
            blocks[b] = solve(blocks[b], unknown, checks(level()));
        }
        return blocks;
    }

    /** What stands at unknown places so that all sums are 0; null if nothing does. By elimination. */
    static int[] solve(int[] word, boolean[] unknown, int checks) {
        List<Integer> places = new ArrayList<>();
        for (int p = 0; p < 14; p++) {
            if (unknown[p]) {
                places.add(p);
            }
        }
        int n = places.size();
        int[][] m = new int[checks][n + 1];
        for (int j = 0; j < checks; j++) {
            for (int k = 0; k < n; k++) {
                m[j][k] = power(j * (13 - places.get(k)) % 15);
            }
            for (int p = 0; p < 14; p++) {
                if (!unknown[p]) {
                    m[j][n] ^= times(word[p], power(j * (13 - p) % 15));
                }
            }
        }
        for (int k = 0; k < n; k++) {
            int pivot = k;
            while (pivot < checks && m[pivot][k] == 0) {
                pivot++;
            }
            if (pivot == checks) {
                return null;
            }
            int[] swap = m[pivot];
            m[pivot] = m[k];
            m[k] = swap;
            int first = m[k][k];
            for (int c = 0; c <= n; c++) {
                m[k][c] = by(m[k][c], first);
            }
            for (int r = 0; r < checks; r++) {
                int factor = m[r][k];
                for (int c = 0; r != k && c <= n; c++) {
                    m[r][c] ^= times(factor, m[k][c]);
                }
            }
        }
        for (int r = n; r < checks; r++) {
            if (m[r][n] != 0) {
                return null;
            }
        }
        int[] whole = word.clone();
        for (int k = 0; k < n; k++) {
            whole[places.get(k)] = m[k][n];
        }
        return whole;
    }

    /** Which free dot it is. */
    private static int order(int row, int column) {
        int n = 0;
        for (int r = 0; r < 15; r++) {
            for (int i = 0; i < 15; i++) {
                int c = r % 2 == 0 ? i : 14 - i;
                boolean free = isFree(r, c);
                if (r == row && c == column) {
                    return free ? n : NONE;
                }
                n += free ? 1 : 0;
            }
        }
        throw new IllegalStateException();
    }

    private static final int[][] ORDERS = orders();

    private static int[][] orders() {
        int[][] orders = new int[15][15];
        for (int r = 0; r < 15; r++) {
            for (int c = 0; c < 15; c++) {
                orders[r][c] = order(r, c);
            }
        }
        return orders;
    }

    private static boolean isEye(int r, int c) {
        return r <= 2 && c <= 2 || r <= 2 && c >= 12 || r >= 12 && c <= 2;
    }

    private static boolean isFormat(int r, int c) {
        return r == 3 && c <= 3 || r == 3 && c >= 11 || r == 11 && c <= 3;
    }

    private static boolean isFree(int r, int c) {
        return !isEye(r, c) && r != 7 && !isFormat(r, c);
    }

    private static boolean isTurnedBy(int mask, int r, int c) {
        switch (mask) {
            case 0: return (r + c) % 2 == 0;
            case 1: return r % 2 == 0;
            case 2: return c % 3 == 0;
            case 3: return r * c % 2 == 0 && (r + c) % 2 == 0;
            default: return false;
        }
    }

    private boolean[][] square(int[][] symbols, int mask) {
        boolean[][] dark = new boolean[15][15];
        String format = Integer.toBinaryString(16 + 4 * level() + Math.max(mask, 0)).substring(1);
        for (int r = 0; r < 15; r++) {
            for (int c = 0; c < 15; c++) {
                if (isEye(r, c)) {
                    dark[r][c] = !((r == 1 || r == 13) && (c == 1 || c == 13));
                } else if (r == 7) {
                    dark[r][c] = c % 2 == 0;
                } else if (isFormat(r, c)) {
                    dark[r][c] = format.charAt(c >= 11 ? c - 11 : c) == '1';
                } else {
                    int n = ORDERS[r][c];
                    boolean one = n < 168
                            && (symbols[n / 4 % 3][n / 12] & new int[] {8, 4, 2, 1}[n % 4]) != 0;
                    dark[r][c] = one != isTurnedBy(mask, r, c);
                }
            }
        }
        return dark;
    }

    private static int penaltyOf(boolean[][] dark) {
        int sum = 0;
        int number = 0;
        for (int r = 0; r < 15; r++) {
            for (int c = 0; c < 15; c++) {
                number += dark[r][c] ? 1 : 0;
                if (r < 14 && c < 14 && dark[r][c] == dark[r + 1][c] && dark[r][c] == dark[r][c + 1]
                        && dark[r][c] == dark[r + 1][c + 1]) {
                    sum += 3;
                }
            }
        }
        for (int i = 0; i < 15; i++) {
            StringBuilder row = new StringBuilder();
            StringBuilder column = new StringBuilder();
            for (int k = 0; k < 15; k++) {
                row.append(dark[i][k] ? 'x' : 'o');
                column.append(dark[k][i] ? 'x' : 'o');
            }
            sum += runs(row.toString()) + runs(column.toString());
        }
        return sum + Math.abs(number - 112) / 5;
    }

    private static int runs(String line) {
        int sum = 0;
        for (String part : line.split("(?<=x)(?=o)|(?<=o)(?=x)")) {
            sum += part.length() >= 5 ? part.length() - 2 : 0;
        }
        return sum;
    }

    private int bestMask(int[][] symbols) {
        int best = 0;
        for (int mask = 1; mask < 4; mask++) {
            if (penaltyOf(square(symbols, mask)) < penaltyOf(square(symbols, best))) {
                best = mask;
            }
        }
        return best;
    }

    int mark(int what) {
        switch (what) {
            case 0: return level();
            case 1: return tooLong() ? NONE : bestMask(symbols());
            case 2: return items(level());
            case 3: return tooLong() ? 1 : 0;
            default: return BAD;
        }
    }

    int symbol(int block, int p) {
        if (block < 0 || block > 2 || p < 0 || p > 13) {
            return BAD;
        }
        return tooLong() ? NONE : symbols()[block][p];
    }

    int dots(int mask, int row) {
        if (mask < -1 || mask > 3 || row < 0 || row > 14) {
            return BAD;
        }
        if (tooLong()) {
            return NOT;
        }
        int bits = 0;
        boolean[] dark = square(symbols(), mask)[row];
        for (int c = 0; c < 15; c++) {
            bits += dark[c] ? 1 << c : 0;
        }
        return bits;
    }

    int penalty(int mask) {
        if (mask < 0 || mask > 3) {
            return BAD;
        }
        return tooLong() ? NOT : penaltyOf(square(symbols(), mask));
    }

    int place(int row, int column, int what) {
        if (!isDot(row, column) || what < 0 || what > 1) {
            return BAD;
        }
        int n = ORDERS[row][column];
        if (n == NONE || what == 0) {
            return n;
        }
        return n >= 168 ? NONE : n / 4;
    }

    // ---- damage

    private static boolean isDot(int row, int column) {
        return row >= 0 && row < 15 && column >= 0 && column < 15;
    }

    private static int number(boolean[][] dots) {
        int n = 0;
        for (boolean[] row : dots) {
            for (boolean dot : row) {
                n += dot ? 1 : 0;
            }
        }
        return n;
    }

    private void act(boolean[][] dots, int row, int column) {
        dots[row][column] = !dots[row][column];
        acts.addLast(new int[] {dots == turned ? 0 : 1, row, column});
        if (acts.size() > 60) {
            acts.removeFirst();
        }
    }

    int turn(int row, int column) {
        if (!isDot(row, column)) {
            return BAD;
        }
        act(turned, row, column);
        return number(turned);
    }

    int lost(int row, int column) {
        if (!isDot(row, column)) {
            return BAD;
        }
        act(gone, row, column);
        return number(gone);
    }

    int back() {
        if (acts.isEmpty()) {
            return NOT;
        }
        int[] act = acts.removeLast();
        boolean[][] dots = act[0] == 0 ? turned : gone;
        dots[act[1]][act[2]] = !dots[act[1]][act[2]];
        return acts.size();
    }

    int heal() {
        int hurt = 0;
        for (int r = 0; r < 15; r++) {
            for (int c = 0; c < 15; c++) {
                hurt += turned[r][c] || gone[r][c] ? 1 : 0;
                turned[r][c] = false;
                gone[r][c] = false;
            }
        }
        acts.clear();
        return hurt;
    }

    private int[][] seenSquare() {
        int[][] symbols = symbols();
        boolean[][] dark = square(symbols, bestMask(symbols));
        int[][] seen = new int[15][15];
        for (int r = 0; r < 15; r++) {
            for (int c = 0; c < 15; c++) {
                seen[r][c] = gone[r][c] ? 2 : dark[r][c] != turned[r][c] ? 1 : 0;
            }
        }
        return seen;
    }

    int seen(int row, int column) {
        if (!isDot(row, column)) {
            return BAD;
        }
        return tooLong() ? NOT : seenSquare()[row][column];
    }

    // ---- reading

    /** What is read of a square: everything that the calls tell of it. */
    private static final class Read {
        int outcome;
        int level = NONE;
        int mask = NONE;
        final int[] lost = new int[3];
        final int[] unlike = new int[3];
        final int[][] words = new int[3][];
    }

    private Read readNow() {
        if (tooLong()) {
            Read none = new Read();
            none.outcome = 4;
            return none;
        }
        return readOf(seenSquare());
    }

    private static Read readOf(int[][] seen) {
        Read read = new Read();
        int format = 0;
        for (int i = 0; i < 4; i++) {
            int[] tells = {seen[3][i], seen[3][11 + i], seen[11][i]};
            int ones = 0;
            int zeros = 0;
            for (int tell : tells) {
                ones += tell == 1 ? 1 : 0;
                zeros += tell == 0 ? 1 : 0;
            }
            if (ones == zeros) {
                read.outcome = 1;
                return read;
            }
            format = 2 * format + (ones > zeros ? 1 : 0);
        }
        if (format / 4 == 3) {
            read.outcome = 1;
            return read;
        }
        read.level = format / 4;
        read.mask = format % 4;
        readBlocks(read, seen);
        return read;
    }

    private static void readBlocks(Read read, int[][] seen) {
        int[][] given = new int[3][14];
        boolean[][] lost = new boolean[3][14];
        for (int r = 0; r < 15; r++) {
            for (int c = 0; c < 15; c++) {
                int n = ORDERS[r][c];
                if (n == NONE || n >= 168) {
                    continue;
                }
                if (seen[r][c] == 2) {
                    lost[n / 4 % 3][n / 12] = true;
                } else if (seen[r][c] == 1 != isTurnedBy(read.mask, r, c)) {
                    given[n / 4 % 3][n / 12] |= new int[] {8, 4, 2, 1}[n % 4];
                }
            }
        }
        for (int b = 0; b < 3; b++) {
            read.words[b] = mend(given[b], lost[b], checks(read.level));
            read.unlike[b] = read.words[b] == null ? NONE : 0;
            for (int p = 0; p < 14; p++) {
                read.lost[b] += lost[b][p] ? 1 : 0;
                if (read.words[b] != null && !lost[b][p] && read.words[b][p] != given[b][p]) {
                    read.unlike[b]++;
                }
            }
            read.outcome = read.words[b] == null ? 2 : read.outcome;
        }
        if (read.outcome == 0) {
            int bytes = read.words[0][0];
            read.outcome = bytes == 15 || 1 + 2 * bytes > 3 * items(read.level) ? 3 : 0;
        }
    }

    /** Tries all places that may be wrong, fewest first; null: beyond. */
    static int[] mend(int[] given, boolean[] lost, int checks) {
        int[] masked = given.clone();
        int number = 0;
        for (int p = 0; p < 14; p++) {
            masked[p] = lost[p] ? 16 : given[p];
            number += lost[p] ? 1 : 0;
        }
        String key = checks + Arrays.toString(masked);
        if (!MENDED.containsKey(key)) {
            int[] whole = null;
            for (int w = 0; whole == null && number + 2 * w <= checks; w++) {
                whole = mendAny(given, lost, checks, w, 0);
            }
            MENDED.put(key, whole);
        }
        return MENDED.get(key);
    }

    private static int[] mendAny(int[] given, boolean[] unknown, int checks, int more, int from) {
        if (more == 0) {
            return solve(given, unknown, checks);
        }
        for (int p = from; p < 14; p++) {
            if (!unknown[p]) {
                boolean[] wider = unknown.clone();
                wider[p] = true;
                int[] whole = mendAny(given, wider, checks, more - 1, p + 1);
                if (whole != null) {
                    return whole;
                }
            }
        }
        return null;
    }

    int why() {
        return readNow().outcome;
    }

    int told(int i) {
        if (i < -1 || i > 13) {
            return BAD;
        }
        return told(readNow(), i);
    }

    private static int told(Read read, int i) {
        if (read.outcome != 0) {
            return NOT;
        }
        List<Integer> all = new ArrayList<>();
        for (int p = 0; p < items(read.level); p++) {
            for (int b = 0; b < 3; b++) {
                all.add(read.words[b][p]);
            }
        }
        if (i == -1) {
            return all.get(0);
        }
        return i >= all.get(0) ? NONE : 16 * all.get(2 * i + 1) + all.get(2 * i + 2);
    }

    int format(int what) {
        if (what < 0 || what > 1) {
            return BAD;
        }
        return what == 0 ? readNow().level : readNow().mask;
    }

    int block(int block, int what) {
        if (block < 0 || block > 2 || what < 0 || what > 2) {
            return BAD;
        }
        return block(readNow(), block, what);
    }

    private static int block(Read read, int block, int what) {
        if (read.level == NONE) {
            return NOT;
        }
        if (what == 0) {
            return read.lost[block];
        }
        if (read.words[block] == null) {
            return NONE;
        }
        return what == 1 ? read.unlike[block]
                : checks(read.level) - read.lost[block] - 2 * read.unlike[block];
    }

    int mended(int block, int p) {
        if (block < 0 || block > 2 || p < 0 || p > 13) {
            return BAD;
        }
        return mended(readNow(), block, p);
    }

    private static int mended(Read read, int block, int p) {
        if (read.level == NONE) {
            return NOT;
        }
        return read.words[block] == null ? NONE : read.words[block][p];
    }

    int straw(int what) {
        if (what < 0 || what > 1) {
            return BAD;
        }
        if (readNow().outcome != 0) {
            return NONE;
        }
        int[][] seen = seenSquare();
        for (int r = 0; r < 15; r++) {
            for (int c = 0; c < 15; c++) {
                if (seen[r][c] != 2) {
                    seen[r][c] = 1 - seen[r][c];
                    int outcome = readOf(seen).outcome;
                    seen[r][c] = 1 - seen[r][c];
                    if (outcome != 0) {
                        return what == 0 ? r : c;
                    }
                }
            }
        }
        return NONE;
    }

    // ---- sheets

    private int found(int number) {
        finding = number;
        return -10 - number;
    }

    private static boolean isSheet(int s) {
        return s >= 0 && s < 4;
    }

    private static Class<?> kind(int form) {
        return new Class<?>[] {byte.class, short.class, int.class}[form];
    }

    private static void put(Object row, int i, int v) {
        if (row instanceof byte[] bytes) {
            bytes[i] = (byte) v;
        } else if (row instanceof short[] shorts) {
            shorts[i] = (short) v;
        } else {
            ((int[]) row)[i] = v;
        }
    }

    int sheet(int s, int form, int n) {
        if (!isSheet(s) || form < 0 || form > 2 || n > 60) {
            return BAD;
        }
        try {
            sheets[s] = Array.newInstance(kind(form), n);
            return n;
        } catch (NegativeArraySizeException e) {
            return found(5);
        }
    }

    int lose(int s) {
        if (!isSheet(s)) {
            return BAD;
        }
        if (sheets[s] == null) {
            return found(1);
        }
        int had = Array.getLength(sheets[s]);
        sheets[s] = null;
        return had;
    }

    private int findingAt(int s, int form, int i) {
        if (sheets[s] == null) {
            return 1;
        }
        if (sheets[s].getClass().getComponentType() != kind(form)) {
            return 3;
        }
        return i < 0 || i >= Array.getLength(sheets[s]) ? 2 : 0;
    }

    int lay(int s, int form, int i, int v) {
        if (!isSheet(s) || form < 0 || form > 2) {
            return BAD;
        }
        int number = findingAt(s, form, i);
        if (number != 0) {
            return found(number);
        }
        put(sheets[s], i, v);
        return 1;
    }

    int get(int s, int form, int i) {
        if (!isSheet(s) || form < 0 || form > 2) {
            return Integer.MIN_VALUE;
        }
        int number = findingAt(s, form, i);
        if (number != 0) {
            found(number);
            return Integer.MIN_VALUE;
        }
        return Array.getInt(sheets[s], i);
    }

    int copy(int s, int i, int t, int j, int n) {
        if (!isSheet(s) || !isSheet(t)) {
            return BAD;
        }
        try {
            System.arraycopy(sheets[s], i, sheets[t], j, n);
            return 1;
        } catch (NullPointerException e) {
            return found(1);
        } catch (ArrayStoreException e) {
            return found(4);
        } catch (IndexOutOfBoundsException e) {
            return found(2);
        }
    }

    int read(int s) {
        if (!isSheet(s)) {
            return BAD;
        }
        if (sheets[s] == null) {
            return found(1);
        }
        int n = 0;
        while (n < Array.getLength(sheets[s]) && type(0, Array.getInt(sheets[s], n)) >= 0) {
            n++;
        }
        return n;
    }

    int write(int row, int s) {
        if (row < 0 || row > 14 || !isSheet(s)) {
            return BAD;
        }
        if (sheets[s] == null) {
            return found(1);
        }
        if (tooLong()) {
            return NOT;
        }
        int[] seen = seenSquare()[row];
        int n = 0;
        while (n < 15 && n < Array.getLength(sheets[s])) {
            put(sheets[s], n, seen[n]);
            n++;
        }
        return n;
    }

    int count(int what) {
        switch (what) {
            case 0: return text.size();
            case 1: return level();
            case 2: return mark(1);
            case 3: return why();
            case 4: return number(turned);
            case 5: return number(gone);
            case 6: return acts.size();
            case 7: return tooLong() ? 0 : number(square(symbols(), mark(1)));
            case 8: return finding;
            default: return BAD;
        }
    }

    long digest() {
        List<Integer> all = new ArrayList<>();
        for (int i = 0; i <= 7; i++) {
            all.add(count(i));
        }
        all.add(fault());
        for (int i = 0; i <= 3; i++) {
            all.add(mark(i));
        }
        Read read = readNow();
        for (int b = 0; b < 3; b++) {
            for (int p = 0; p < 14; p++) {
                all.add(symbol(b, p));
                all.add(mended(read, b, p));
            }
            for (int what = 0; what <= 2; what++) {
                all.add(block(read, b, what));
            }
        }
        for (int mask = -1; mask <= 3; mask++) {
            for (int row = 0; row < 15; row++) {
                all.add(dots(mask, row));
            }
        }
        for (int mask = 0; mask <= 3; mask++) {
            all.add(penalty(mask));
        }
        int[][] seen = tooLong() ? null : seenSquare();
        for (int r = 0; r < 15; r++) {
            for (int c = 0; c < 15; c++) {
                all.add(seen == null ? NOT : seen[r][c]);
            }
        }
        all.add(read.outcome);
        for (int i = -1; i <= 13; i++) {
            all.add(told(read, i));
        }
        all.addAll(List.of(read.level, read.mask, straw(0), straw(1)));
        long h = 17;
        for (int value : all) {
            h = 31 * h + value;
        }
        return h;
    }
}
