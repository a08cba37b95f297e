/** How tests make marks and hurt them, by symbols and not by dots. */
abstract class Marks {
    static final int NONE = -1, BAD = -2, NOT = -3, FULL = -4;
    static final int NULL = -11, INDEX = -12, CAST = -13, STORE = -14, SIZE = -15;
    static final int LEAST = Integer.MIN_VALUE, MOST = Integer.MAX_VALUE;
    static final String[] LEVELS = {"low", "mid", "top"};
    /** How many bytes a text has at most that makes a mark, by level. */
    static final int[] LONGEST = {14, 14, 11};
    private static final int[][] DOTS = dotsOfTheWay();

    private static int[][] dotsOfTheWay() {
        int[][] dots = new int[171][];
        Naive naive = new Naive();
        for (int at = 0; at < 225; at++) {
            int order = naive.place(at / 15, at % 15, 0);
            if (order != NONE) {
                dots[order] = new int[] {at / 15, at % 15};
            }
        }
        return dots;
    }

    /** An object with a level's name and bytes typed. */
    static DotSquares typed(String level, int... bytes) {
        DotSquares x = new DotSquares();
        for (int i = 0; i < level.length(); i++) {
            x.type(1, level.charAt(i));
        }
        for (int b : bytes) {
            x.type(0, b);
        }
        return x;
    }

    /** So many bytes, each unlike the others. */
    static int[] bytes(int n) {
        int[] bytes = new int[n];
        for (int i = 0; i < n; i++) {
            bytes[i] = 200 + 37 * i & 255;
        }
        return bytes;
    }

    static DotSquares tooLong() {
        return typed("top", 1, 2, 3, 4, 5, 6, 7, 8, 9, 10, 11, 12);
    }

    /** Row and column of one of the dots of a symbol, which is 0 for its highest bit. */
    static int[] dotOf(int block, int p, int which) {
        return DOTS[4 * (3 * p + block) + which];
    }

    /** Adds a number of the field to a symbol as it is seen. */
    static void spoil(DotSquares x, int block, int p, int by) {
        for (int which = 0; which < 4; which++) {
            if ((by & 8 >> which) != 0) {
                int[] dot = dotOf(block, p, which);
                x.turn(dot[0], dot[1]);
            }
        }
    }

    static void loseSymbol(DotSquares x, int block, int p) {
        int[] dot = dotOf(block, p, p % 4);
        x.lost(dot[0], dot[1]);
    }

    /** Makes block 0 look like another whole one by a level, whose item 0 differs by a number. */
    static void forge(DotSquares x, int level, int by) {
        Naive one = new Naive();
        for (char c : LEVELS[level].toCharArray()) {
            one.type(1, c);
        }
        one.type(0, 0);
        for (int p = 0; p < 14; p++) {
            spoil(x, 0, p, Naive.times(one.symbol(0, p), by));
        }
    }
}
