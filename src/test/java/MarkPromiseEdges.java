/** Boundary cases of promises 8 to 12: the mark. */
final class MarkPromiseEdges extends Edge {
    static void all() {
        mark();
        symbol();
        dots();
        penalty();
        place();
    }

    private static void mark() {
        section("Promise 8");
        says("LEVEL (what = 0), MASK (1; NONE: there is no MARK), ITEMS of a BLOCK (2), "
                + "whether THE TEXT is TOO LONG (3: 1, 0).");
        for (int level = 0; level < 3; level++) {
            for (int n = 0; n <= 14; n++) {
                DotSquares x = typed(LEVELS[level], bytes(n));
                boolean fits = n <= LONGEST[level];
                due(x, "mark(0)", level);
                holds("mark(1) is a mask, or none", fits ? x.mark(1) >= 0 && x.mark(1) < 4 : x.mark(1) == NONE);
                due(x, "mark(2)", 12 - 2 * level);
                due(x, "mark(3)", fits ? 0 : 1);
            }
        }
        says("BAD.");
        for (int bad : outside(4)) {
            due(new DotSquares(), "mark(" + bad + ")", BAD);
            due(tooLong(), "mark(" + bad + ")", BAD);
        }
    }

    private static void symbol() {
        section("Promise 9");
        says("SYMBOL p (0 to 13) of a BLOCK; NONE: there is no MARK.");
        DotSquares x = typed("low", 0x41);
        due(x, "symbol(0, 0)", 1);
        due(x, "symbol(0, 13)", 5);
        due(x, "symbol(1, 0)", 4);
        due(x, "symbol(1, 13)", 7);
        due(x, "symbol(2, 0)", 1);
        for (int i = 0; i < 42; i++) {
            due(tooLong(), "symbol(" + i % 3 + ", " + i / 3 + ")", NONE);
        }
        go(x, "turn(0, 3)", "lost(0, 4)");
        due(x, "symbol(0, 0)", 1);
        says("BAD.");
        for (DotSquares any : new DotSquares[] {x, tooLong()}) {
            for (int bad : outside(3)) {
                due(any, "symbol(" + bad + ", 0)", BAD);
            }
            for (int bad : outside(14)) {
                due(any, "symbol(2, " + bad + ")", BAD);
            }
        }
    }

    private static void dots() {
        section("Promise 10");
        says("Dots of a ROW, as bits (bit 0 COLUMN 0, 1 dark): without any MASK (mask = NONE), with MASK 0 to 3.");
        DotSquares x = new DotSquares();
        due(x, "dots(-1, 0)", 0b111000000000111);
        due(x, "dots(-1, 14)", 0b000000000000111);
        due(x, "dots(0, 14)", 0b101010101010111);
        due(x, "dots(1, 0)", 0b111111111111111);
        due(x, "dots(2, 14)", 0b001001001001111);
        due(x, "dots(3, 14)", 0b101010101010111);
        due(x, "dots(3, 13)", 0b000000000000101);
        says("(EYES, CLOCK, FORMAT of that MASK are there; without any they are of MASK 0.)");
        due(x, "dots(-1, 3)", 0);
        due(x, "dots(1, 3)", 0b100000000001000);
        due(x, "dots(3, 3)", 0b110000000001100);
        due(x, "dots(2, 7)", 0b101010101010101);
        DotSquares mid = typed("mid");
        due(mid, "dots(-1, 11)", 0b0010);
        due(mid, "dots(-1, 3)", 0b001000000000010);
        go(mid, "turn(11, 0)", "lost(11, 1)");
        due(mid, "dots(-1, 11)", 0b0010);
        says("BAD; NOT: there is no MARK.");
        for (int bad : outsideAndNotNone(4)) {
            due(x, "dots(" + bad + ", 0)", BAD);
            due(tooLong(), "dots(" + bad + ", 0)", BAD);
        }
        for (int bad : outside(15)) {
            due(x, "dots(-1, " + bad + ")", BAD);
            due(tooLong(), "dots(3, " + bad + ")", BAD);
        }
        for (int mask = -1; mask < 4; mask++) {
            for (int row = 0; row < 15; row++) {
                due(tooLong(), "dots(" + mask + ", " + row + ")", NOT);
            }
        }
    }

    private static void penalty() {
        section("Promise 11");
        says("PENALTY of a MASK.");
        DotSquares x = typed("low", 65);
        int[] penalties = {42, 147, 246, 146};
        for (int mask = 0; mask < 4; mask++) {
            due(x, "penalty(" + mask + ")", penalties[mask]);
        }
        go(x, "turn(4, 4)", "lost(4, 5)");
        due(x, "penalty(0)", 42);
        says("BAD; NOT: there is no MARK.");
        for (int bad : outside(4)) {
            due(x, "penalty(" + bad + ")", BAD);
            due(tooLong(), "penalty(" + bad + ")", BAD);
        }
        for (int mask = 0; mask < 4; mask++) {
            due(tooLong(), "penalty(" + mask + ")", NOT);
        }
    }

    private static void place() {
        section("Promise 12");
        DotSquares[] any = {new DotSquares(), typed("mid", bytes(14)), tooLong()};
        for (DotSquares x : any) {
            says("Of a FREE dot which it is (0 to 170; what = 0), its SYMBOL as 3 times the place and the BLOCK "
                    + "(1; NONE: one of the last three);");
            int[][] dots = {{0, 3, 0, 0}, {0, 6, 3, 0}, {0, 7, 4, 1}, {0, 11, 8, 2}, {1, 11, 9, 2}, {1, 9, 11, 2},
                {1, 8, 12, 3}, {14, 3, 159, 39}, {14, 8, 164, 41}, {14, 11, 167, 41}, {14, 12, 168, NONE},
                {14, 13, 169, NONE}, {14, 14, 170, NONE}};
            for (int[] dot : dots) {
                due(x, "place(" + dot[0] + ", " + dot[1] + ", 0)", dot[2]);
                due(x, "place(" + dot[0] + ", " + dot[1] + ", 1)", dot[3]);
            }
            says("NONE: it is not FREE.");
            int[][] others = {{0, 0}, {1, 13}, {3, 0}, {3, 14}, {7, 0}, {7, 14}, {11, 3}, {14, 2}};
            for (int[] dot : others) {
                due(x, "place(" + dot[0] + ", " + dot[1] + ", 0)", NONE);
                due(x, "place(" + dot[0] + ", " + dot[1] + ", 1)", NONE);
            }
            says("BAD.");
            for (int bad : outside(15)) {
                due(x, "place(" + bad + ", 3, 0)", BAD);
                due(x, "place(3, " + bad + ", 1)", BAD);
            }
            for (int bad : outside(2)) {
                due(x, "place(0, 3, " + bad + ")", BAD);
                due(x, "place(0, 0, " + bad + ")", BAD);
            }
        }
    }
}
