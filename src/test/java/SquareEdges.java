/** Boundary cases of the terms: the square, its masks and their penalty. */
final class SquareEdges extends Edge {
    private static final int[] DARK_EYES = {0x7007, 0x5005, 0x7007};

    static void all() {
        section("Terms");
        rowsAndColumns();
        eyesAndClock();
        format();
        free();
        symbolsOnTheWay();
        masks();
        penalties();
        leastMask();
    }

    private static void rowsAndColumns() {
        says("THE SQUARE has ROWS and COLUMNS 0 to 14.");
        DotSquares x = typed("mid", 1, 2, 3);
        int[][] corners = {{0, 0, 1}, {0, 14, 1}, {14, 0, 1}};
        for (int[] corner : corners) {
            due(x, "seen(" + corner[0] + ", " + corner[1] + ")", corner[2]);
        }
        due(x, "place(14, 14, 0)", 170);
        for (int bad : outside(15)) {
            due(x, "place(" + bad + ", 0, 0)", BAD);
            due(x, "place(14, " + bad + ", 0)", BAD);
            due(x, "seen(" + bad + ", 14)", BAD);
            due(x, "seen(0, " + bad + ")", BAD);
            due(x, "dots(0, " + bad + ")", BAD);
        }
        for (int row = 0; row < 15; row++) {
            for (int mask = -1; mask < 4; mask++) {
                equal("no dot behind column 14", x.dots(mask, row) >> 15, 0);
            }
        }
    }

    private static void eyesAndClock() {
        for (int n = 0; n < 12; n++) {
            DotSquares x = typed(LEVELS[n % 3], bytes(n));
            for (int mask = -1; mask < 4; mask++) {
                says("EYES: three by three dots at ROWS 0 to 2, COLUMNS 0 to 2; ROWS 0 to 2, COLUMNS 12 to 14; "
                        + "ROWS 12 to 14, COLUMNS 0 to 2: all dark but the one in the midst.");
                for (int row = 0; row < 3; row++) {
                    equal("eyes in row " + row, x.dots(mask, row) & 0x7007, DARK_EYES[row]);
                    equal("eye in row " + (12 + row), x.dots(mask, 12 + row) & 7, DARK_EYES[row] & 7);
                }
                says("CLOCK: ROW 7: dark at even COLUMNS.");
                due(x, "dots(" + mask + ", 7)", 0x5555);
            }
        }
    }

    private static void format() {
        says("FORMAT: ROW 3, COLUMNS 0 to 3; ROW 3, COLUMNS 11 to 14; ROW 11, COLUMNS 0 to 3: three times the same: "
                + "four times LEVEL (0 low, 1 mid, 2 top) and MASK, its highest bit first (1 is dark).");
        int[][] lines = {{0b0000, 0b1000, 0b0100, 0b1100}, {0b0010, 0b1010, 0b0110, 0b1110},
            {0b0001, 0b1001, 0b0101, 0b1101}};
        for (int level = 0; level < 3; level++) {
            DotSquares x = typed(LEVELS[level], bytes(9));
            for (int mask = 0; mask < 4; mask++) {
                int line = lines[level][mask];
                equal("row 3, left", x.dots(mask, 3) & 15, line);
                equal("row 3, right", x.dots(mask, 3) >> 11, line);
                equal("row 11", x.dots(mask, 11) & 15, line);
            }
            equal("without any mask", x.dots(-1, 3) & 15, lines[level][0]);
            equal("seen", x.seen(11, 3), x.mark(1) & 1);
        }
    }

    private static void free() {
        says("All other dots (171) are FREE, in this order: by ROWS, in even ones by COLUMNS upward, "
                + "in odd ones downward.");
        DotSquares x = new DotSquares();
        int[][] ends = {{0, 3, 0}, {0, 11, 8}, {1, 11, 9}, {1, 3, 17}, {2, 3, 18}, {2, 11, 26}, {3, 10, 27},
            {3, 4, 33}, {4, 0, 34}, {4, 14, 48}, {5, 14, 49}, {5, 0, 63}, {6, 0, 64}, {6, 14, 78}, {8, 0, 79},
            {8, 14, 93}, {9, 14, 94}, {9, 0, 108}, {10, 0, 109}, {10, 14, 123}, {11, 14, 124}, {11, 4, 134},
            {12, 3, 135}, {12, 14, 146}, {13, 14, 147}, {13, 3, 158}, {14, 3, 159}, {14, 14, 170}};
        for (int[] end : ends) {
            due(x, "place(" + end[0] + ", " + end[1] + ", 0)", end[2]);
        }
        int[][] others = {{0, 2}, {0, 12}, {2, 2}, {2, 12}, {3, 3}, {3, 11}, {3, 0}, {3, 14}, {7, 0}, {7, 14},
            {11, 0}, {11, 3}, {12, 2}, {14, 0}, {14, 2}, {1, 1}, {13, 1}};
        for (int[] other : others) {
            due(x, "place(" + other[0] + ", " + other[1] + ", 0)", NONE);
        }
        int free = 0;
        for (int at = 0; at < 225; at++) {
            free += x.place(at / 15, at % 15, 0) == NONE ? 0 : 1;
        }
        equal("free dots", free, 171);
    }

    private static void symbolsOnTheWay() {
        says("SYMBOLS come there one behind another, each with its highest bit first: of 0 to 13 that of BLOCK 0, "
                + "of BLOCK 1, of BLOCK 2; three dots are left, light.");
        for (int level = 0; level < 3; level++) {
            for (int n = 0; n <= LONGEST[level]; n++) {
                DotSquares x = typed(LEVELS[level], bytes(n));
                for (int i = 0; i < 168; i++) {
                    int[] dot = dotOf(i / 4 % 3, i / 12, i % 4);
                    equal("free dot " + i, x.dots(-1, dot[0]) >> dot[1] & 1,
                            x.symbol(i / 4 % 3, i / 12) >> 3 - i % 4 & 1);
                }
                equal("the last three", x.dots(-1, 14) >> 12, 0);
            }
        }
        DotSquares x = new DotSquares();
        due(x, "place(14, 11, 1)", 41);
        for (int column = 12; column < 15; column++) {
            due(x, "place(14, " + column + ", 1)", NONE);
        }
    }

    private static void masks() {
        says("A FREE dot is turned by MASK (0 to 3), if at ROW r and COLUMN c: 0: r and c together are even; "
                + "1: r is even; 2: c can be divided by 3; 3: r times c, and r and c together, are even.");
        DotSquares x = typed("low", bytes(7));
        for (int at = 0; at < 225; at++) {
            int r = at / 15;
            int c = at % 15;
            boolean[] turned = {(r + c) % 2 == 0, r % 2 == 0, c % 3 == 0, r * c % 2 == 0 && (r + c) % 2 == 0};
            for (int mask = 0; mask < 4 && x.place(r, c, 0) != NONE; mask++) {
                equal("mask " + mask + " at " + r + ", " + c,
                        (x.dots(mask, r) ^ x.dots(-1, r)) >> c & 1, turned[mask] ? 1 : 0);
            }
        }
        int[] lastThree = {0b101, 0b111, 0b001, 0b101};
        for (int mask = 0; mask < 4; mask++) {
            equal("the last three dots by mask " + mask, x.dots(mask, 14) >> 12, lastThree[mask]);
        }
    }

    /** Which boundary cases of the penalty some square has had. */
    private static final class Met {
        final boolean[] across = new boolean[16];
        final boolean[] down = new boolean[16];
        final boolean[] dark = new boolean[226];
        boolean darkSquare;
        boolean lightSquare;
    }

    private static void penalties() {
        Met met = new Met();
        for (int i = 0; i < 600; i++) {
            DotSquares x = i == 0 ? new DotSquares()
                    : typed(LEVELS[i % 3], i & 255, i * 7 & 255, i / 3 & 255, i * i & 255, i % 5, 255 - i & 255);
            for (int mask = 0; mask < 4; mask++) {
                says("PENALTY: of five or more like dots one behind another in a ROW or COLUMN (as many as there are) "
                        + "their number less 2; of each two by two like dots 3;");
                due(x, "penalty(" + mask + ")", penaltyOf(x, mask, met));
            }
        }
        for (int length = 4; length <= 7; length++) {
            holds("a run of " + length + " in a row", met.across[length]);
            holds("a run of " + length + " in a column", met.down[length]);
        }
        holds("a run of 15", met.across[15]);
        holds("two by two dark ones", met.darkSquare);
        holds("two by two light ones", met.lightSquare);
        says("how many dark ones there are more or less than 112, by 5, cut: all together, of THE SQUARE with EYES, "
                + "CLOCK and FORMAT.");
        for (int dark : new int[] {102, 103, 107, 108, 111, 112, 113, 116, 117, 121, 122}) {
            holds(dark + " dark ones", met.dark[dark]);
        }
    }

    private static int penaltyOf(DotSquares x, int mask, Met met) {
        int[] rows = new int[15];
        int[] columns = new int[15];
        int dark = 0;
        for (int at = 0; at < 225; at++) {
            int dot = x.dots(mask, at / 15) >> at % 15 & 1;
            rows[at / 15] |= dot << at % 15;
            columns[at % 15] |= dot << at / 15;
            dark += dot;
        }
        int sum = Math.abs(dark - 112) / 5;
        met.dark[dark] = true;
        for (int i = 0; i < 15; i++) {
            sum += runs(rows[i], met.across) + runs(columns[i], met.down);
        }
        for (int at = 0; at < 14 * 14; at++) {
            int c = at % 14;
            int four = rows[at / 14] >> c & 3 | (rows[at / 14 + 1] >> c & 3) << 2;
            met.darkSquare |= four == 15;
            met.lightSquare |= four == 0;
            sum += four == 15 || four == 0 ? 3 : 0;
        }
        return sum;
    }

    private static int runs(int line, boolean[] met) {
        int sum = 0;
        int length = 1;
        for (int i = 1; i <= 15; i++) {
            if (i < 15 && (line >> i & 1) == (line >> i - 1 & 1)) {
                length++;
            } else {
                met[length] = true;
                sum += length >= 5 ? length - 2 : 0;
                length = 1;
            }
        }
        return sum;
    }

    private static void leastMask() {
        says("MASK is the one with the least PENALTY, of like ones the least.");
        boolean[] taken = new boolean[4];
        int ties = 0;
        for (int i = 0; i < 3000; i++) {
            DotSquares x = typed(LEVELS[i % 3], i & 255, i * 7 & 255, i * 31 & 255, i >> 4, i * 77 & 255,
                    (i ^ 90) & 255);
            int least = 0;
            boolean tie = false;
            for (int mask = 1; mask < 4; mask++) {
                tie = x.penalty(mask) == x.penalty(least) || tie && x.penalty(mask) > x.penalty(least);
                least = x.penalty(mask) < x.penalty(least) ? mask : least;
            }
            due(x, "mark(1)", least);
            taken[least] = true;
            ties += tie ? 1 : 0;
        }
        for (int mask = 0; mask < 4; mask++) {
            holds("mask " + mask + " was taken", taken[mask]);
        }
        holds("some least penalties were alike", ties > 0);
    }
}
