/**
 * Square mark maker: a text of bytes becomes a square of dots with check symbols,
 * dots may be damaged, and the damaged square is read back.
 *
 * Whatever follows from the texts and the damage is worked out when it is first
 * asked for and kept until one of them changes.
 */
public final class DotSquares {
    public static final int NONE = -1, BAD = -2, NOT = -3, FULL = -4;

    private static final int SIDE = 15;
    private static final int DOTS = SIDE * SIDE;
    private static final int WHOLE_ROW = 0x7FFF;
    private static final int FREE_DOTS = 171;
    private static final int SYMBOL_BITS = 4;
    private static final int BLOCKS = 3;
    private static final int SYMBOLS = 14;
    private static final int ALL_SYMBOLS = BLOCKS * SYMBOLS;
    private static final int MOST_CHECKS = 6;
    private static final int LEVELS = 3;
    private static final int MASKS = 4;
    private static final int TEXT_ROOM = 14;
    private static final int NAME_ROOM = 3;
    private static final int SHEETS = 4;
    private static final int FORMS = 3;
    private static final int MOST_ITEMS = 60;
    private static final int KNOWN_DAMAGE = 60;

    private static final int UPPER_FORMAT_ROW = 3;
    private static final int LOWER_FORMAT_ROW = 11;
    private static final int RIGHT_FORMAT_COLUMN = 11;

    /** The names of the levels 0 to 2, of three letters each. */
    private static final String LEVEL_NAMES = "lowmidtop";

    /** The free dots of each row; bit 0 is column 0, as in all rows held as bits. */
    private static final int[] FREE = {
        0x0FF8, 0x0FF8, 0x0FF8, 0x07F0, 0x7FFF, 0x7FFF, 0x7FFF, 0x0000,
        0x7FFF, 0x7FFF, 0x7FFF, 0x7FF0, 0x7FF8, 0x7FF8, 0x7FF8};

    /** The dark dots of eyes and clock in each row. */
    private static final int[] EYES_AND_CLOCK = {
        0x7007, 0x5005, 0x7007, 0, 0, 0, 0, 0x5555,
        0, 0, 0, 0, 0x0007, 0x0005, 0x0007};

    private static final int WELL = 0, NO_FORMAT = 1, BEYOND = 2, WRONG = 3, NO_MARK = 4;

    private static final int NULL = 1, INDEX = 2, CAST = 3, STORE = 4, SIZE = 5;

    /** What is worked out, in this order; each needs all that comes before it. */
    private static final int MARKING = 0, READING = 1, SEARCHING = 2, READY = 3;

    private final Typed content = new Typed(TEXT_ROOM);
    private final Typed levelName = new Typed(NAME_ROOM);
    private final Damage damage = new Damage();
    private final Way way = new Way();
    private final Mender mender = new Mender();
    private final Mark square = new Mark();
    private final Reading reading = new Reading();
    private final Straw search = new Straw();
    private final Sheet[] sheets = new Sheet[SHEETS];
    private int latestFinding;
    private int stale = MARKING;

    public DotSquares() {
        for (int s = 0; s < SHEETS; s++) {
            sheets[s] = new Sheet();
        }
    }

    // ---- texts

    public int type(int text, int b) {
        if (!within(text, 2) || !within(b, 256)) {
            return BAD;
        }
        Typed typed = typedBy(text);
        if (typed.isFull()) {
            return FULL;
        }
        typed.append(b);
        stale = MARKING;
        return typed.length;
    }

    public int wipe(int text) {
        if (!within(text, 2)) {
            return BAD;
        }
        Typed typed = typedBy(text);
        int had = typed.length;
        typed.length = 0;
        stale = MARKING;
        return had;
    }

    public int undo(int text) {
        if (!within(text, 2)) {
            return BAD;
        }
        Typed typed = typedBy(text);
        if (typed.length == 0) {
            return NOT;
        }
        typed.length--;
        stale = MARKING;
        return typed.length;
    }

    public int fault() {
        return levelName.faultAsLevel();
    }

    public int read(int s) {
        if (!within(s, SHEETS)) {
            return BAD;
        }
        Sheet from = sheets[s];
        if (!from.there) {
            return found(NULL);
        }
        int come = 0;
        while (come < from.size && within(from.items[come], 256) && !content.isFull()) {
            content.append(from.items[come]);
            come++;
        }
        stale = MARKING;
        return come;
    }

    public int field(int a, int b, int what) {
        if (!within(a, 16) || !within(b, 16) || !within(what, 3)) {
            return BAD;
        }
        if (what == 0) {
            return Field.times(a, b);
        }
        return what == 1 ? Field.quotient(a, b) : Field.raised(a, b);
    }

    // ---- the mark

    public int mark(int what) {
        if (!within(what, 4)) {
            return BAD;
        }
        bring(MARKING);
        return markNow(what);
    }

    public int symbol(int block, int p) {
        if (!within(block, BLOCKS) || !within(p, SYMBOLS)) {
            return BAD;
        }
        bring(MARKING);
        return symbolNow(block, p);
    }

    public int dots(int mask, int row) {
        if (mask != NONE && !within(mask, MASKS) || !within(row, SIDE)) {
            return BAD;
        }
        bring(MARKING);
        return dotsNow(mask, row);
    }

    public int penalty(int mask) {
        if (!within(mask, MASKS)) {
            return BAD;
        }
        bring(MARKING);
        return penaltyNow(mask);
    }

    public int place(int row, int column, int what) {
        if (!isDot(row, column) || !within(what, 2)) {
            return BAD;
        }
        int dot = SIDE * row + column;
        return what == 0 ? way.orders[dot] : way.symbolAt(dot);
    }

    // ---- damage

    public int turn(int row, int column) {
        if (!isDot(row, column)) {
            return BAD;
        }
        damage.add(SIDE * row + column);
        damageChanged();
        return dotsIn(damage.turned);
    }

    public int lost(int row, int column) {
        if (!isDot(row, column)) {
            return BAD;
        }
        damage.add(DOTS + SIDE * row + column);
        damageChanged();
        return dotsIn(damage.gone);
    }

    public int back() {
        if (damage.known == 0) {
            return NOT;
        }
        damage.takeBack();
        damageChanged();
        return damage.known;
    }

    public int heal() {
        int hurt = damage.hurtDots();
        damage.clear();
        damageChanged();
        return hurt;
    }

    public int seen(int row, int column) {
        if (!isDot(row, column)) {
            return BAD;
        }
        bring(MARKING);
        return seenNow(row, column);
    }

    // ---- reading

    public int why() {
        bring(READING);
        return reading.outcome;
    }

    public int told(int i) {
        if (i != NONE && !within(i, TEXT_ROOM)) {
            return BAD;
        }
        bring(READING);
        return toldNow(i);
    }

    public int format(int what) {
        if (!within(what, 2)) {
            return BAD;
        }
        bring(READING);
        return formatNow(what);
    }

    public int block(int block, int what) {
        if (!within(block, BLOCKS) || !within(what, 3)) {
            return BAD;
        }
        bring(READING);
        return blockNow(block, what);
    }

    public int mended(int block, int p) {
        if (!within(block, BLOCKS) || !within(p, SYMBOLS)) {
            return BAD;
        }
        bring(READING);
        return mendedNow(block, p);
    }

    public int straw(int what) {
        if (!within(what, 2)) {
            return BAD;
        }
        bring(SEARCHING);
        return strawNow(what);
    }

    // ---- sheets

    public int sheet(int s, int form, int n) {
        if (!within(s, SHEETS) || !within(form, FORMS) || n > MOST_ITEMS) {
            return BAD;
        }
        if (n < 0) {
            return found(SIZE);
        }
        sheets[s].renew(form, n);
        return n;
    }

    public int lose(int s) {
        if (!within(s, SHEETS)) {
            return BAD;
        }
        if (!sheets[s].there) {
            return found(NULL);
        }
        sheets[s].there = false;
        return sheets[s].size;
    }

    public int lay(int s, int form, int i, int v) {
        if (!within(s, SHEETS) || !within(form, FORMS)) {
            return BAD;
        }
        int refusal = sheets[s].findingAt(form, i);
        if (refusal != 0) {
            return found(refusal);
        }
        sheets[s].put(i, v);
        return 1;
    }

    public int get(int s, int form, int i) {
        if (!within(s, SHEETS) || !within(form, FORMS)) {
            return Integer.MIN_VALUE;
        }
        int refusal = sheets[s].findingAt(form, i);
        if (refusal != 0) {
            found(refusal);
            return Integer.MIN_VALUE;
        }
        return sheets[s].items[i];
    }

    public int copy(int s, int i, int t, int j, int n) {
        if (!within(s, SHEETS) || !within(t, SHEETS)) {
            return BAD;
        }
        Sheet from = sheets[s];
        Sheet to = sheets[t];
        if (!from.there || !to.there) {
            return found(NULL);
        }
        if (from.form != to.form) {
            return found(STORE);
        }
        if (!from.hasPart(i, n) || !to.hasPart(j, n)) {
            return found(INDEX);
        }
        System.arraycopy(from.items, i, to.items, j, n);
        return 1;
    }

    public int write(int row, int s) {
        if (!within(row, SIDE) || !within(s, SHEETS)) {
            return BAD;
        }
        Sheet to = sheets[s];
        if (!to.there) {
            return found(NULL);
        }
        bring(MARKING);
        if (!square.there) {
            return NOT;
        }
        int come = Math.min(to.size, SIDE);
        for (int column = 0; column < come; column++) {
            to.put(column, seenNow(row, column));
        }
        return come;
    }

    public int count(int what) {
        if (!within(what, 9)) {
            return BAD;
        }
        bring(what == 3 ? READING : MARKING);
        return countNow(what);
    }

    public long digest() {
        bring(SEARCHING);
        long h = 17;
        for (int what = 0; what < 8; what++) {
            h = 31 * h + countNow(what);
        }
        h = 31 * h + levelName.faultAsLevel();
        for (int what = 0; what < 4; what++) {
            h = 31 * h + markNow(what);
        }
        h = withBlocks(h);
        h = withSquares(h);
        return withReading(h);
    }

    // ---- parts of the digest

    private long withBlocks(long start) {
        long h = start;
        for (int block = 0; block < BLOCKS; block++) {
            for (int p = 0; p < SYMBOLS; p++) {
                h = 31 * h + symbolNow(block, p);
                h = 31 * h + mendedNow(block, p);
            }
            for (int what = 0; what < 3; what++) {
                h = 31 * h + blockNow(block, what);
            }
        }
        return h;
    }

    private long withSquares(long start) {
        long h = start;
        for (int mask = NONE; mask < MASKS; mask++) {
            for (int row = 0; row < SIDE; row++) {
                h = 31 * h + dotsNow(mask, row);
            }
        }
        for (int mask = 0; mask < MASKS; mask++) {
            h = 31 * h + penaltyNow(mask);
        }
        for (int row = 0; row < SIDE; row++) {
            for (int column = 0; column < SIDE; column++) {
                h = 31 * h + seenNow(row, column);
            }
        }
        return h;
    }

    private long withReading(long start) {
        long h = 31 * start + reading.outcome;
        for (int i = NONE; i < TEXT_ROOM; i++) {
            h = 31 * h + toldNow(i);
        }
        for (int what = 0; what < 2; what++) {
            h = 31 * h + formatNow(what);
        }
        for (int what = 0; what < 2; what++) {
            h = 31 * h + strawNow(what);
        }
        return h;
    }

    // ---- answers out of what has been worked out already, for arguments that are as told

    private int markNow(int what) {
        if (what == 0) {
            return square.level;
        }
        if (what == 1) {
            return square.mask;
        }
        if (what == 2) {
            return itemsOf(square.level);
        }
        return square.there ? 0 : 1;
    }

    private int symbolNow(int block, int p) {
        return square.there ? square.symbols[block][p] : NONE;
    }

    private int dotsNow(int mask, int row) {
        if (!square.there) {
            return NOT;
        }
        return mask == NONE ? square.bare[row] : square.masked[mask][row];
    }

    private int penaltyNow(int mask) {
        return square.there ? square.penalties[mask] : NOT;
    }

    private int seenNow(int row, int column) {
        if (!square.there) {
            return NOT;
        }
        if (bit(damage.gone[row], column) == 1) {
            return 2;
        }
        return bit(square.chosen(row) ^ damage.turned[row], column);
    }

    private int toldNow(int i) {
        if (reading.outcome != WELL) {
            return NOT;
        }
        int bytes = reading.item(0);
        if (i == NONE) {
            return bytes;
        }
        return i < bytes ? 16 * reading.item(1 + 2 * i) + reading.item(2 + 2 * i) : NONE;
    }

    private int formatNow(int what) {
        if (!reading.formatKnown()) {
            return NONE;
        }
        return what == 0 ? reading.level() : reading.mask();
    }

    private int blockNow(int block, int what) {
        if (!reading.formatKnown()) {
            return NOT;
        }
        Block part = reading.blocks[block];
        if (what == 0) {
            return Integer.bitCount(part.gone);
        }
        if (part.unlike == NONE) {
            return NONE;
        }
        return what == 1 ? part.unlike : checksOf(reading.level()) - part.cost(part.unlike);
    }

    private int mendedNow(int block, int p) {
        if (!reading.formatKnown()) {
            return NOT;
        }
        Block part = reading.blocks[block];
        return part.unlike == NONE ? NONE : part.mended[p];
    }

    private int strawNow(int what) {
        if (search.dot == NONE) {
            return NONE;
        }
        return what == 0 ? search.dot / SIDE : search.dot % SIDE;
    }

    private int countNow(int what) {
        switch (what) {
            case 0: return content.length;
            case 1: return square.level;
            case 2: return square.mask;
            case 3: return reading.outcome;
            case 4: return dotsIn(damage.turned);
            case 5: return dotsIn(damage.gone);
            case 6: return damage.known;
            case 7: return square.dark;
            default: return latestFinding;
        }
    }

    // ---- helpers

    /** Works out what is asked for, as far as it is stale. */
    private void bring(int stage) {
        if (stale == MARKING) {
            square.make(content, levelName.asLevel(), way, mender);
            stale = READING;
        }
        if (stage >= READING && stale == READING) {
            reading.look(square, damage, NONE);
            reading.readFormat();
            reading.readBlocks(way, mender);
            stale = SEARCHING;
        }
        if (stage >= SEARCHING && stale == SEARCHING) {
            search.find(reading, square, damage, way, mender);
            stale = READY;
        }
    }

    /** Damage leaves the mark itself as it is. */
    private void damageChanged() {
        stale = Math.min(stale, READING);
    }

    private Typed typedBy(int number) {
        return number == 0 ? content : levelName;
    }

    private int found(int number) {
        latestFinding = number;
        return -10 - number;
    }

    private static boolean within(int n, int bound) {
        return n >= 0 && n < bound;
    }

    private static boolean isDot(int row, int column) {
        return within(row, SIDE) && within(column, SIDE);
    }

    private static int bit(int line, int column) {
        return line >> column & 1;
    }

    private static int dotsIn(int[] rows) {
        int sum = 0;
        for (int row : rows) {
            sum += Integer.bitCount(row);
        }
        return sum;
    }

    private static int checksOf(int level) {
        return 2 + 2 * level;
    }

    private static int itemsOf(int level) {
        return SYMBOLS - checksOf(level);
    }

    private static boolean hasRoom(int level, int bytes) {
        return bytes <= TEXT_ROOM && 1 + 2 * bytes <= BLOCKS * itemsOf(level);
    }

    /** The free dots of a row that a mask turns. */
    private static int maskedDots(int mask, int row) {
        boolean even = row % 2 == 0;
        int evenColumns = 0x5555;
        switch (mask) {
            case 0: return FREE[row] & (even ? evenColumns : ~evenColumns);
            case 1: return even ? FREE[row] : 0;
            case 2: return FREE[row] & 0x1249;
            // a sum and a product that are both even need both numbers even
            default: return even ? FREE[row] & evenColumns : 0;
        }
    }

    /** A text that is typed byte by byte. */
    private static final class Typed {
        final int[] bytes = new int[TEXT_ROOM];
        final int room;
        int length;

        Typed(int room) {
            this.room = Math.min(room, TEXT_ROOM);
        }

        boolean isFull() {
            return length >= room;
        }

        void append(int b) {
            if (length < room) {
                bytes[length] = b;
                length++;
            }
        }

        /** Byte i; 0 behind the end, as items without a byte are. */
        int byteAt(int i) {
            return i >= 0 && i < length ? bytes[i] : 0;
        }

        int faultAsLevel() {
            for (int i = 0; i < length; i++) {
                if (levelBegunBy(i + 1) == NONE) {
                    return i;
                }
            }
            return length > 0 && length < NAME_ROOM ? length : NONE;
        }

        int asLevel() {
            int level = length == NAME_ROOM ? levelBegunBy(NAME_ROOM) : NONE;
            return Math.max(level, 0);
        }

        /** The first level whose name begins with the first n bytes. */
        private int levelBegunBy(int n) {
            for (int level = 0; level < LEVELS; level++) {
                int like = 0;
                while (like < n && like < NAME_ROOM
                        && LEVEL_NAMES.charAt(NAME_ROOM * level + like) == byteAt(like)) {
                    like++;
                }
                if (like == n) {
                    return level;
                }
            }
            return NONE;
        }
    }

    /** The field of sixteen; adding and taking away in it are both ^. */
    private static final class Field {
        /** The powers of 2, twice over, so that two logarithms can be added without a division. */
        private static final int[] POWERS = {
            1, 2, 4, 8, 3, 6, 12, 11, 5, 10, 7, 14, 15, 13, 9,
            1, 2, 4, 8, 3, 6, 12, 11, 5, 10, 7, 14, 15, 13, 9};
        /** Which power of 2 a number is; 0 is none, what stands there is not used. */
        private static final int[] LOGS = {0, 0, 1, 4, 2, 8, 5, 10, 3, 14, 9, 7, 6, 13, 11, 12};
        private static final int ORDER = 15;

        static int times(int a, int b) {
            return a == 0 || b == 0 ? 0 : POWERS[LOGS[a & 15] + LOGS[b & 15]];
        }

        static int quotient(int a, int b) {
            if (b == 0) {
                return NONE;
            }
            return a == 0 ? 0 : POWERS[LOGS[a & 15] + ORDER - LOGS[b & 15]];
        }

        static int raised(int a, int n) {
            if (n == 0) {
                return 1;
            }
            return a == 0 ? 0 : POWERS[Math.floorMod(LOGS[a & 15] * n, ORDER)];
        }

        /** The number that stands for a place of a block in its sums; the mask keeps any p inside the row. */
        static int ofPlace(int p) {
            return POWERS[SYMBOLS - 1 - p & 15];
        }
    }

    /**
     * Finds the symbols of a block whose checks are right out of those that are given.
     *
     * The sums of what is given depend on the wrong symbols alone: sum j is the sum, over the
     * wrong places, of the error times the place's number to the power j. To strike a place
     * from such a row (the next sum less the place's number times this one) leaves a row that
     * is one shorter and free of that place.
     */
    private static final class Mender {
        private final int[] sums = new int[MOST_CHECKS];
        private final int[] rest = new int[MOST_CHECKS];
        private final int[] locator = new int[MOST_CHECKS + 1];
        private final int[] former = new int[MOST_CHECKS + 1];
        private final int[] kept = new int[MOST_CHECKS + 1];
        private final int[] wanted = new int[SYMBOLS];
        private int wantedPlaces;

        /**
         * Mends what is given, where the places of the bits of gone are not known.
         * Answers how many of the other places were wrong; NONE: there are too few checks.
         */
        int mend(int[] given, int gone, int checks, int[] result) {
            int left = checks - Integer.bitCount(gone);
            if (left < 0) {
                return NONE;
            }
            System.arraycopy(given, 0, result, 0, SYMBOLS);
            sumUp(given, checks);
            wantGone(gone, checks);
            int wrong = locate(left);
            if (2 * wrong > left || !wantLocated(wrong, gone)) {
                return NONE;
            }
            correct(result, checks);
            return wrong;
        }

        private void sumUp(int[] given, int checks) {
            for (int j = 0; j < checks; j++) {
                int x = Field.raised(2, j);
                int sum = 0;
                for (int p = 0; p < SYMBOLS; p++) {
                    sum = Field.times(sum, x) ^ given[p];
                }
                sums[j] = sum;
            }
        }

        private void wantGone(int gone, int checks) {
            System.arraycopy(sums, 0, rest, 0, MOST_CHECKS);
            wantedPlaces = 0;
            for (int p = 0; p < SYMBOLS; p++) {
                if (bit(gone, p) == 1) {
                    strike(checks - wantedPlaces, Field.ofPlace(p));
                    wanted[wantedPlaces] = p;
                    wantedPlaces++;
                }
            }
        }

        private void strike(int length, int x) {
            for (int k = 0; k + 1 < length; k++) {
                rest[k] = rest[k + 1] ^ Field.times(x, rest[k]);
            }
        }

        /**
         * Berlekamp and Massey: the shortest locator, 1 first, whose sum with any run of the
         * rest is 0. Answers its length, which is how many places are wrong if they can be found.
         */
        private int locate(int left) {
            startLocators();
            int length = 0;
            int shift = 1;
            int formerGap = 1;
            for (int i = 0; i < left; i++) {
                int gap = rest[i];
                for (int k = 1; k <= length && k <= i; k++) {
                    gap ^= Field.times(locator[k], rest[i - k]);
                }
                if (gap == 0) {
                    shift++;
                    continue;
                }
                System.arraycopy(locator, 0, kept, 0, kept.length);
                int scale = Field.quotient(gap, formerGap);
                for (int k = 0; k + shift < locator.length; k++) {
                    locator[k + shift] ^= Field.times(scale, former[k]);
                }
                shift++;
                if (2 * length <= i) {
                    System.arraycopy(kept, 0, former, 0, former.length);
                    length = i + 1 - length;
                    formerGap = gap;
                    shift = 1;
                }
            }
            return length;
        }

        private void startLocators() {
            for (int k = 0; k < locator.length; k++) {
                locator[k] = k == 0 ? 1 : 0;
                former[k] = locator[k];
            }
        }

        /** Whether the locator tells as many places, all of them not gone, as it is long. */
        private boolean wantLocated(int wrong, int gone) {
            int located = 0;
            for (int p = 0; p < SYMBOLS && located < wrong; p++) {
                if (bit(gone, p) == 0 && isLocated(p, wrong)) {
                    wanted[wantedPlaces] = p;
                    wantedPlaces++;
                    located++;
                }
            }
            return located == wrong;
        }

        private boolean isLocated(int p, int wrong) {
            int inverse = Field.quotient(1, Field.ofPlace(p));
            int sum = 0;
            for (int k = wrong; k >= 0; k--) {
                sum = Field.times(sum, inverse) ^ locator[k];
            }
            return sum == 0;
        }

        /** Strikes all wanted places but one: what is left tells the error at that one. */
        private void correct(int[] result, int checks) {
            for (int w = 0; w < wantedPlaces; w++) {
                System.arraycopy(sums, 0, rest, 0, MOST_CHECKS);
                int x = Field.ofPlace(wanted[w]);
                int length = checks;
                int scale = 1;
                for (int other = 0; other < wantedPlaces; other++) {
                    if (other != w) {
                        int y = Field.ofPlace(wanted[other]);
                        strike(length, y);
                        length--;
                        scale = Field.times(scale, x ^ y);
                    }
                }
                result[wanted[w]] ^= Field.quotient(rest[0], scale);
            }
        }
    }

    /** The winding way of the free dots. */
    private static final class Way {
        /** Of each dot which free one it is, or NONE. */
        final int[] orders = new int[DOTS];
        /** Of each free dot its row and its column. */
        final int[] rows = new int[FREE_DOTS];
        final int[] columns = new int[FREE_DOTS];

        Way() {
            int next = 0;
            for (int row = 0; row < SIDE; row++) {
                for (int step = 0; step < SIDE; step++) {
                    int column = row % 2 == 0 ? step : SIDE - 1 - step;
                    orders[SIDE * row + column] = NONE;
                    if (bit(FREE[row], column) == 1 && next < FREE_DOTS) {
                        orders[SIDE * row + column] = next;
                        rows[next] = row;
                        columns[next] = column;
                        next++;
                    }
                }
            }
        }

        /** Which of all symbols, as they come one behind another, has a part in a dot; or NONE. */
        int symbolAt(int dot) {
            int order = orders[dot];
            return order != NONE && order < SYMBOL_BITS * ALL_SYMBOLS ? order / SYMBOL_BITS : NONE;
        }
    }

    /** What the texts make: symbols, the square under each mask, and the mask that is taken. */
    private static final class Mark {
        int level;
        boolean there;
        int mask;
        int dark;
        final int[][] symbols = new int[BLOCKS][SYMBOLS];
        final int[] bare = new int[SIDE];
        final int[][] masked = new int[MASKS][SIDE];
        final int[] penalties = new int[MASKS];
        private final int[] carried = new int[SIDE];

        void make(Typed text, int level, Way way, Mender mender) {
            this.level = level;
            there = hasRoom(level, text.length);
            mask = NONE;
            dark = 0;
            if (there) {
                layItems(text);
                addChecks(mender);
                layDots(way);
                chooseMask();
            }
        }

        int chosen(int row) {
            return mask == NONE ? 0 : masked[mask][row];
        }

        private void layItems(Typed text) {
            int items = BLOCKS * itemsOf(level);
            symbols[0][0] = text.length;
            for (int i = 1; i < items; i++) {
                int b = text.byteAt((i - 1) / 2);
                symbols[i % BLOCKS][i / BLOCKS] = i % 2 == 1 ? b >> 4 : b & 15;
            }
        }

        /** Checks are what mending finds where all of them are gone. */
        private void addChecks(Mender mender) {
            int items = itemsOf(level);
            int gone = (1 << SYMBOLS) - (1 << items);
            for (int block = 0; block < BLOCKS; block++) {
                mender.mend(symbols[block], gone, checksOf(level), symbols[block]);
            }
        }

        private void layDots(Way way) {
            for (int row = 0; row < SIDE; row++) {
                carried[row] = 0;
            }
            for (int n = 0; n < SYMBOL_BITS * ALL_SYMBOLS; n++) {
                int all = n / SYMBOL_BITS;
                int symbol = symbols[all % BLOCKS][all / BLOCKS];
                int isDark = bit(symbol, SYMBOL_BITS - 1 - n % SYMBOL_BITS);
                carried[way.rows[n]] |= isDark << way.columns[n];
            }
            for (int row = 0; row < SIDE; row++) {
                bare[row] = fixedDots(row, 0) | carried[row];
                for (int m = 0; m < MASKS; m++) {
                    masked[m][row] = fixedDots(row, m) | carried[row] ^ maskedDots(m, row);
                }
            }
        }

        private void chooseMask() {
            mask = 0;
            for (int m = 0; m < MASKS; m++) {
                penalties[m] = penaltyOf(masked[m]);
                if (penalties[m] < penalties[mask]) {
                    mask = m;
                }
            }
            dark = dotsIn(masked[mask]);
        }

        /** Eyes, clock and format in a row. */
        private int fixedDots(int row, int mask) {
            if (row != UPPER_FORMAT_ROW && row != LOWER_FORMAT_ROW) {
                return EYES_AND_CLOCK[row];
            }
            int format = 4 * level + mask;
            int dots = 0;
            for (int column = 0; column < SYMBOL_BITS; column++) {
                dots |= bit(format, SYMBOL_BITS - 1 - column) << column;
            }
            return row == LOWER_FORMAT_ROW ? dots : dots | dots << RIGHT_FORMAT_COLUMN;
        }

        private static int penaltyOf(int[] rows) {
            int sum = Math.abs(dotsIn(rows) - 112) / 5;
            int startsAbove = 0;
            for (int row = 0; row < SIDE; row++) {
                int across = runStartsAcross(rows[row]);
                int down = runStartsDown(rows, row);
                sum += penaltyOfRuns(across, across << 1) + penaltyOfRuns(down, startsAbove);
                startsAbove = down;
                if (row + 1 < SIDE) {
                    sum += 3 * likeSquares(rows[row], rows[row + 1]);
                }
            }
            return sum;
        }

        /**
         * A run of n like dots has n less 4 dots with which five of it begin, and only the first
         * of them follows none: with 2 more for that one it is n less 2.
         */
        private static int penaltyOfRuns(int starts, int behindStarts) {
            return Integer.bitCount(starts) + 2 * Integer.bitCount(starts & ~behindStarts);
        }

        /** The dots of a row with which five like dots begin, to the right. */
        private static int runStartsAcross(int line) {
            int like = ~(line ^ line >> 1) & WHOLE_ROW >> 1;
            return like & like >> 1 & like >> 2 & like >> 3;
        }

        /** The dots of a row with which five like dots begin, downward. */
        private static int runStartsDown(int[] rows, int row) {
            if (row + 4 >= SIDE) {
                return 0;
            }
            int anyDark = 0;
            int allDark = WHOLE_ROW;
            for (int r = row; r < row + 5; r++) {
                anyDark |= rows[r];
                allDark &= rows[r];
            }
            return allDark | ~anyDark & WHOLE_ROW;
        }

        /** Two by two dots are alike where no two neighbours among them differ. */
        private static int likeSquares(int upper, int lower) {
            int unlike = upper ^ upper >> 1 | lower ^ lower >> 1 | upper ^ lower;
            return Integer.bitCount(~unlike & WHOLE_ROW >> 1);
        }
    }

    /** Which dots are turned and lost, and the latest changes of that. */
    private static final class Damage {
        final int[] turned = new int[SIDE];
        final int[] gone = new int[SIDE];
        int known;
        /** A ring: a dot's number, with DOTS more where it was lost and not turned. */
        private final int[] acts = new int[KNOWN_DAMAGE];
        private int next;

        void add(int act) {
            change(act);
            acts[next] = act;
            next = next + 1 < KNOWN_DAMAGE ? next + 1 : 0;
            known = Math.min(known + 1, KNOWN_DAMAGE);
        }

        void takeBack() {
            if (known > 0) {
                next = next > 0 ? next - 1 : KNOWN_DAMAGE - 1;
                change(acts[next]);
                known--;
            }
        }

        void clear() {
            for (int row = 0; row < SIDE; row++) {
                turned[row] = 0;
                gone[row] = 0;
            }
            known = 0;
        }

        int hurtDots() {
            int sum = 0;
            for (int row = 0; row < SIDE; row++) {
                sum += Integer.bitCount(turned[row] | gone[row]);
            }
            return sum;
        }

        private void change(int act) {
            int[] rows = act < DOTS ? turned : gone;
            int dot = act % DOTS;
            rows[dot / SIDE] ^= 1 << dot % SIDE;
        }
    }

    /** A block as it is read. */
    private static final class Block {
        final int[] given = new int[SYMBOLS];
        final int[] mended = new int[SYMBOLS];
        /** The places that are gone, as bits. */
        int gone;
        /** How many places are unlike; NONE: the block is beyond mending. */
        int unlike;

        /** How many checks it takes to mend so many places that are unlike. */
        int cost(int unlike) {
            return Integer.bitCount(gone) + 2 * unlike;
        }
    }

    /** What is read of the square as it is seen. */
    private static final class Reading {
        int outcome;
        /** Four times the level, and the mask; NONE: it is not known. */
        int format;
        final Block[] blocks = new Block[BLOCKS];
        private final int[] darkRows = new int[SIDE];
        private final int[] lostRows = new int[SIDE];
        private final int[] unmasked = new int[SIDE];
        private boolean markThere;

        Reading() {
            for (int block = 0; block < BLOCKS; block++) {
                blocks[block] = new Block();
            }
        }

        /** Takes in what is seen, with one more dot turned (NONE: no other). */
        void look(Mark square, Damage damage, int dot) {
            markThere = square.there;
            for (int row = 0; row < SIDE; row++) {
                darkRows[row] = square.chosen(row) ^ damage.turned[row];
                lostRows[row] = damage.gone[row];
            }
            if (dot != NONE) {
                darkRows[dot / SIDE] ^= 1 << dot % SIDE;
            }
        }

        void readFormat() {
            format = markThere ? 0 : NONE;
            for (int i = 0; i < SYMBOL_BITS && format != NONE; i++) {
                int balance = vote(UPPER_FORMAT_ROW, i)
                        + vote(UPPER_FORMAT_ROW, RIGHT_FORMAT_COLUMN + i)
                        + vote(LOWER_FORMAT_ROW, i);
                format = balance == 0 ? NONE : 2 * format + (balance > 0 ? 1 : 0);
            }
            if (format >= MASKS * LEVELS) {
                format = NONE;
            }
        }

        void readBlocks(Way way, Mender mender) {
            outcome = markThere ? NO_FORMAT : NO_MARK;
            if (!formatKnown()) {
                return;
            }
            takeSymbols(way);
            boolean beyond = false;
            for (Block block : blocks) {
                block.unlike = mender.mend(block.given, block.gone, checksOf(level()), block.mended);
                beyond = beyond || block.unlike == NONE;
            }
            outcome = WELL;
            if (beyond) {
                outcome = BEYOND;
            } else if (!hasRoom(level(), item(0))) {
                outcome = WRONG;
            }
        }

        boolean formatKnown() {
            return format != NONE;
        }

        int level() {
            return format / MASKS;
        }

        int mask() {
            return format % MASKS;
        }

        /** Item i as it is mended. */
        int item(int i) {
            return blocks[i % BLOCKS].mended[i / BLOCKS];
        }

        private int vote(int row, int column) {
            return bit(lostRows[row], column) == 1 ? 0 : 2 * bit(darkRows[row], column) - 1;
        }

        private void takeSymbols(Way way) {
            for (int row = 0; row < SIDE; row++) {
                unmasked[row] = darkRows[row] ^ maskedDots(mask(), row);
            }
            for (int all = 0; all < ALL_SYMBOLS; all++) {
                int symbol = 0;
                int lostDots = 0;
                for (int n = SYMBOL_BITS * all; n < SYMBOL_BITS * (all + 1); n++) {
                    symbol = 2 * symbol + bit(unmasked[way.rows[n]], way.columns[n]);
                    lostDots |= bit(lostRows[way.rows[n]], way.columns[n]);
                }
                Block block = blocks[all % BLOCKS];
                int p = all / BLOCKS;
                block.given[p] = symbol;
                block.gone = (p == 0 ? 0 : block.gone) | lostDots << p;
            }
        }
    }

    /** The search for the first dot that would be one too many. */
    private static final class Straw {
        /** The dot's number, by rows and columns; NONE. */
        int dot;
        private final Reading trial = new Reading();
        private final int[] given = new int[SYMBOLS];
        private final int[] mended = new int[SYMBOLS];

        void find(Reading reading, Mark square, Damage damage, Way way, Mender mender) {
            dot = NONE;
            if (reading.outcome != WELL) {
                return;
            }
            for (int at = 0; at < DOTS && dot == NONE; at++) {
                if (bit(damage.gone[at / SIDE], at % SIDE) == 1) {
                    continue;
                }
                boolean spoils = false;
                if (way.symbolAt(at) != NONE) {
                    spoils = spoilsBlock(reading, way.orders[at], mender);
                } else if (isFormatDot(at)) {
                    trial.look(square, damage, at);
                    trial.readFormat();
                    if (trial.format != reading.format) {
                        trial.readBlocks(way, mender);
                        spoils = trial.outcome != WELL;
                    }
                }
                dot = spoils ? at : NONE;
            }
        }

        private static boolean isFormatDot(int at) {
            int row = at / SIDE;
            return (row == UPPER_FORMAT_ROW || row == LOWER_FORMAT_ROW)
                    && bit(FREE[row], at % SIDE) == 0;
        }

        private boolean spoilsBlock(Reading reading, int order, Mender mender) {
            int all = order / SYMBOL_BITS;
            Block block = reading.blocks[all % BLOCKS];
            int p = all / BLOCKS;
            if (bit(block.gone, p) == 1) {
                return false;
            }
            int checks = checksOf(reading.level());
            int turned = block.given[p] ^ 8 >> order % SYMBOL_BITS;
            int unlike = block.unlike + differs(turned, block.mended[p])
                    - differs(block.given[p], block.mended[p]);
            // as long as the checks are enough for it, the same symbols are found again
            if (block.cost(unlike) <= checks) {
                return false;
            }
            System.arraycopy(block.given, 0, given, 0, SYMBOLS);
            given[p] = turned;
            if (mender.mend(given, block.gone, checks, mended) == NONE) {
                return true;
            }
            return all % BLOCKS == 0 && !hasRoom(reading.level(), mended[0]);
        }

        private static int differs(int a, int b) {
            return a == b ? 0 : 1;
        }
    }

    /** A row of items of a form, or none; made once and used again. */
    private static final class Sheet {
        boolean there;
        int form;
        int size;
        final int[] items = new int[MOST_ITEMS];

        void renew(int form, int n) {
            there = true;
            this.form = form;
            size = n;
            for (int i = 0; i < MOST_ITEMS; i++) {
                items[i] = 0;
            }
        }

        int findingAt(int form, int i) {
            if (!there) {
                return NULL;
            }
            if (form != this.form) {
                return CAST;
            }
            return i < 0 || i >= size ? INDEX : 0;
        }

        void put(int i, int v) {
            if (form == 0) {
                items[i] = (byte) v;
            } else if (form == 1) {
                items[i] = (short) v;
            } else {
                items[i] = v;
            }
        }

        boolean hasPart(int from, int n) {
            return from >= 0 && n >= 0 && n <= size - from;
        }
    }
}
