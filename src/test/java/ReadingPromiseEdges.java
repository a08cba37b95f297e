/** Boundary cases of promises 18 to 23: reading. */
final class ReadingPromiseEdges extends Edge {
    static void all() {
        why();
        told();
        format();
        block();
        mended();
        straw();
    }

    /** Marks that are read as 1, 2 and 3, and no mark: 4. */
    private static DotSquares readAs(int why) {
        DotSquares x = why == 4 ? tooLong() : typed("mid", why == 3 ? new int[0] : bytes(5));
        if (why == 1) {
            go(x, "lost(3, 0)", "lost(3, 11)", "lost(11, 0)");
        } else if (why == 2) {
            for (int p = 0; p < 5; p++) {
                loseSymbol(x, 1, p);
            }
        } else if (why == 3) {
            forge(x, 1, 15);
        }
        return x;
    }

    private static void why() {
        section("Promise 18");
        says("READ.");
        for (int why = 0; why <= 4; why++) {
            due(readAs(why), "why()", why);
            due(readAs(why), "count(3)", why);
        }
        DotSquares x = readAs(2);
        due(x, "back()", 4);
        due(x, "why()", 0);
        due(x, "heal()", 4);
        due(x, "why()", 0);
    }

    private static void told() {
        section("Promise 19");
        says("How many bytes are READ (i = NONE), byte i (0 to 13; NONE).");
        for (int n = 0; n <= 14; n++) {
            DotSquares x = typed("mid", bytes(n));
            due(x, "told(-1)", n);
            for (int i = 0; i < 14; i++) {
                due(x, "told(" + i + ")", i < n ? bytes(n)[i] : NONE);
            }
        }
        DotSquares x = typed("low");
        forge(x, 0, 14);
        due(x, "told(-1)", 14);
        due(x, "count(0)", 0);
        due(x, "told(13)", 0);
        says("BAD; NOT: READ is not 0.");
        for (int why = 0; why <= 4; why++) {
            DotSquares y = readAs(why);
            for (int bad : outsideAndNotNone(14)) {
                due(y, "told(" + bad + ")", BAD);
            }
            for (int i = -1; i < 14 && why > 0; i++) {
                due(y, "told(" + i + ")", NOT);
            }
        }
    }

    private static void format() {
        section("Promise 20");
        says("FORMAT as it is READ: LEVEL (what = 0), MASK (1); NONE: it is not known, there is no MARK.");
        for (int level = 0; level < 3; level++) {
            DotSquares x = typed(LEVELS[level], 1, 2, 3);
            due(x, "format(0)", level);
            due(x, "format(1)", x.mark(1));
        }
        for (int why : new int[] {1, 4}) {
            due(readAs(why), "format(0)", NONE);
            due(readAs(why), "format(1)", NONE);
        }
        for (int why : new int[] {2, 3}) {
            due(readAs(why), "format(0)", 1);
            due(readAs(why), "format(1)", readAs(why).mark(1));
        }
        DotSquares x = typed("low", 65);
        go(x, "turn(3, 0)", "turn(3, 11)", "turn(3, 2)", "turn(11, 2)");
        due(x, "format(0)", 2);
        due(x, "format(1)", x.mark(1) ^ 2);
        says("BAD.");
        for (int why = 0; why <= 4; why++) {
            for (int bad : outside(2)) {
                due(readAs(why), "format(" + bad + ")", BAD);
            }
        }
    }

    private static void block() {
        section("Promise 21");
        says("Of a BLOCK, as it is READ, how many are GONE (what = 0), how many unlike (1; NONE: it is BEYOND), "
                + "SPARE (2; NONE: BEYOND).");
        DotSquares x = readAs(2);
        int[][] want = {{0, 0, 4}, {5, NONE, NONE}, {0, 0, 4}};
        dueBlocks(x, want);
        go(x, "back()");
        want[1] = new int[] {4, 0, 0};
        dueBlocks(x, want);
        spoil(x, 0, 13, 15);
        spoil(x, 2, 0, 1);
        want[0] = new int[] {0, 1, 2};
        want[2] = new int[] {0, 1, 2};
        dueBlocks(x, want);
        DotSquares other = typed("mid");
        forge(other, 1, 7);
        dueBlocks(other, new int[][] {{0, 0, 4}, {0, 0, 4}, {0, 0, 4}});
        says("BAD; NOT: FORMAT is not known, there is no MARK.");
        for (int why = 0; why <= 4; why++) {
            for (int bad : outside(3)) {
                due(readAs(why), "block(" + bad + ", 0)", BAD);
                due(readAs(why), "block(0, " + bad + ")", BAD);
            }
        }
        for (int why : new int[] {1, 4}) {
            dueBlocks(readAs(why), new int[][] {{NOT, NOT, NOT}, {NOT, NOT, NOT}, {NOT, NOT, NOT}});
        }
    }

    private static void dueBlocks(DotSquares x, int[][] want) {
        for (int i = 0; i < 9; i++) {
            due(x, "block(" + i / 3 + ", " + i % 3 + ")", want[i / 3][i % 3]);
        }
    }

    private static void mended() {
        section("Promise 22");
        says("SYMBOL p (0 to 13) of a BLOCK, as it is MENDED; NONE: it is BEYOND.");
        DotSquares x = readAs(2);
        for (int i = 0; i < 42; i++) {
            due(x, "mended(" + i % 3 + ", " + i / 3 + ")", i % 3 == 1 ? NONE : x.symbol(i % 3, i / 3));
        }
        go(x, "back()");
        for (int i = 0; i < 42; i++) {
            due(x, "mended(" + i % 3 + ", " + i / 3 + ")", x.symbol(i % 3, i / 3));
        }
        DotSquares other = readAs(3);
        due(other, "symbol(0, 0)", 0);
        due(other, "mended(0, 0)", 15);
        says("BAD; NOT: FORMAT is not known, there is no MARK.");
        for (int why = 0; why <= 4; why++) {
            for (int bad : outside(3)) {
                due(readAs(why), "mended(" + bad + ", 0)", BAD);
            }
            for (int bad : outside(14)) {
                due(readAs(why), "mended(2, " + bad + ")", BAD);
            }
        }
        for (int why : new int[] {1, 4}) {
            due(readAs(why), "mended(0, 0)", NOT);
            due(readAs(why), "mended(2, 13)", NOT);
        }
    }

    private static void straw() {
        section("Promise 23");
        says("STRAW: the ROW (what = 0), the COLUMN (1); NONE.");
        DotSquares x = readAs(2);
        due(x, "straw(0)", NONE);
        due(x, "straw(1)", NONE);
        go(x, "back()", "back()");
        due(x, "block(1, 2)", 1);
        due(x, "straw(0)", 4);
        due(x, "straw(1)", 6);
        due(typed("mid", 3), "straw(0)", NONE);
        due(typed("mid", 3), "straw(1)", NONE);
        says("BAD.");
        for (int why = 0; why <= 4; why++) {
            for (int bad : outside(2)) {
                due(readAs(why), "straw(" + bad + ")", BAD);
            }
        }
    }
}
