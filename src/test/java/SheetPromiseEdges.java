/** Boundary cases of promises 24 to 31: sheets, counts, the digest. */
final class SheetPromiseEdges extends Edge {
    static void all() {
        sheet();
        lose();
        lay();
        get();
        copy();
        copyOutside();
        write();
        count();
        digest();
    }

    private static void sheet() {
        section("Promise 24");
        says("A SHEET is a new row of a FORM with n items: n.");
        DotSquares x = new DotSquares();
        due(x, "sheet(0, 0, 0)", 0);
        due(x, "sheet(3, 2, 60)", 60);
        due(x, "lay(3, 2, 59, 8)", 1);
        due(x, "sheet(3, 2, 60)", 60);
        due(x, "get(3, 2, 59)", 0);
        due(x, "sheet(3, 1, 1)", 1);
        due(x, "lay(3, 2, 0, 1)", CAST);
        due(x, "lay(3, 1, 1, 1)", INDEX);
        due(x, "lay(3, 1, 0, 6)", 1);
        says("BAD: SHEET, FORM, above 60; SIZE.");
        for (int bad : outside(4)) {
            due(x, "sheet(" + bad + ", 0, 1)", BAD);
            due(x, "sheet(" + bad + ", 0, -1)", BAD);
        }
        for (int bad : outside(3)) {
            due(x, "sheet(3, " + bad + ", 1)", BAD);
            due(x, "sheet(3, " + bad + ", -1)", BAD);
        }
        for (int above : new int[] {61, 256, 65536, MOST}) {
            due(x, "sheet(3, 0, " + above + ")", BAD);
        }
        due(x, "count(8)", 2);
        due(x, "sheet(3, 0, -1)", SIZE);
        due(x, "sheet(3, 0, " + LEAST + ")", SIZE);
        due(x, "count(8)", 5);
        due(x, "get(3, 1, 0)", 6);
        due(x, "sheet(2, 0, -1)", SIZE);
        due(x, "lose(2)", NULL);
    }

    private static void lose() {
        section("Promise 25");
        says("It is LOST: how many items it had.");
        DotSquares x = new DotSquares();
        for (int s = 0; s < 4; s++) {
            for (int n : new int[] {0, 1, 60}) {
                go(x, "sheet(" + s + ", 2, " + n + ")");
                due(x, "lose(" + s + ")", n);
            }
        }
        due(x, "count(8)", 0);
        says("BAD; NULL.");
        for (int s = 0; s < 4; s++) {
            due(x, "lose(" + s + ")", NULL);
        }
        due(x, "count(8)", 1);
        for (int bad : outside(4)) {
            due(x, "lose(" + bad + ")", BAD);
        }
        go(x, "sheet(1, 2, 3)");
        due(x, "lose(0)", NULL);
        due(x, "lose(1)", 3);
    }

    private static void lay() {
        section("Promise 26");
        says("Item i, treated as of a FORM, becomes v (the lowest bits that it has): 1.");
        int[][] laid = {{0, 127, 127}, {0, 128, -128}, {0, 255, -1}, {0, 256, 0}, {0, -128, -128}, {0, -129, 127},
            {0, MOST, -1}, {0, LEAST, 0}, {1, 32767, 32767}, {1, 32768, -32768}, {1, 65535, -1}, {1, 65536, 0},
            {1, -32769, 32767}, {1, MOST, -1}, {1, LEAST, 0}, {1, 255, 255}, {2, MOST, MOST}, {2, LEAST, LEAST},
            {2, 65536, 65536}, {2, -1, -1}};
        for (int[] one : laid) {
            DotSquares x = new DotSquares();
            String item = "(3, " + one[0] + ", 59";
            go(x, "sheet(3, " + one[0] + ", 60)");
            due(x, "lay" + item + ", " + one[1] + ")", 1);
            due(x, "get" + item + ")", one[2]);
            due(x, "get(3, " + one[0] + ", 58)", 0);
            due(x, "count(8)", 0);
        }
        says("BAD; NULL; CAST; INDEX.");
        DotSquares x = new DotSquares();
        go(x, "sheet(0, 1, 2)", "sheet(1, 0, 0)");
        for (int bad : outside(4)) {
            due(x, "lay(" + bad + ", 0, 0, 1)", BAD);
        }
        for (int bad : outside(3)) {
            due(x, "lay(0, " + bad + ", 0, 1)", BAD);
            due(x, "lay(3, " + bad + ", 0, 1)", BAD);
        }
        due(x, "lay(3, 1, 9, 1)", NULL);
        due(x, "lay(0, 0, 9, 1)", CAST);
        due(x, "lay(0, 2, 0, 1)", CAST);
        for (int none : new int[] {-1, 2, 60, LEAST, MOST}) {
            due(x, "lay(0, 1, " + none + ", 1)", INDEX);
        }
        due(x, "lay(1, 0, 0, 1)", INDEX);
        due(x, "lay(0, 1, 0, 1)", 1);
        due(x, "lay(0, 1, 1, 1)", 1);
    }

    private static void get() {
        section("Promise 27");
        says("Item i of it.");
        DotSquares x = new DotSquares();
        go(x, "sheet(0, 2, 60)", "lay(0, 2, 0, 11)", "lay(0, 2, 59, 12)", "lay(0, 2, 30, " + LEAST + ")");
        due(x, "get(0, 2, 0)", 11);
        due(x, "get(0, 2, 59)", 12);
        due(x, "get(0, 2, 1)", 0);
        due(x, "get(0, 2, 30)", LEAST);
        due(x, "count(8)", 0);
        says("BAD: the least int; so are NULL, CAST, INDEX (count() 8 tells).");
        for (int bad : outside(4)) {
            due(x, "get(" + bad + ", 2, 0)", LEAST);
        }
        for (int bad : outside(3)) {
            due(x, "get(0, " + bad + ", 0)", LEAST);
            due(x, "get(3, " + bad + ", 0)", LEAST);
        }
        due(x, "count(8)", 0);
        leastWith(x, "get(3, 2, 60)", 1);
        leastWith(x, "get(0, 1, 60)", 3);
        leastWith(x, "get(0, 2, 60)", 2);
        leastWith(x, "get(0, 0, 0)", 3);
        leastWith(x, "get(0, 2, -1)", 2);
        leastWith(x, "get(1, 0, 0)", 1);
        leastWith(x, "get(0, 2, " + LEAST + ")", 2);
        leastWith(x, "get(4, 2, 0)", 2);
    }

    private static void leastWith(DotSquares x, String call, int finding) {
        due(x, call, LEAST);
        due(x, "count(8)", finding);
    }

    private static DotSquares twoSheets(int form) {
        DotSquares x = new DotSquares();
        go(x, "sheet(0, " + form + ", 6)", "sheet(1, " + form + ", 4)", "sheet(2, " + (form + 1) % 3 + ", 6)");
        for (int i = 0; i < 6; i++) {
            go(x, "lay(0, " + form + ", " + i + ", " + (10 + i) + ")");
        }
        return x;
    }

    private static void dueItems(DotSquares x, int s, int form, int... want) {
        for (int i = 0; i < want.length; i++) {
            due(x, "get(" + s + ", " + form + ", " + i + ")", want[i]);
        }
    }

    private static void copy() {
        section("Promise 28");
        says("n items of SHEET s, from i on, come to SHEET t (perhaps s, as they were), from j on: 1.");
        for (int form = 0; form < 3; form++) {
            DotSquares x = twoSheets(form);
            due(x, "copy(0, 2, 1, 0, 4)", 1);
            dueItems(x, 1, form, 12, 13, 14, 15);
            due(x, "copy(0, 0, 1, 3, 1)", 1);
            dueItems(x, 1, form, 12, 13, 14, 10);
            due(x, "copy(0, 0, 0, 2, 4)", 1);
            dueItems(x, 0, form, 10, 11, 10, 11, 12, 13);
            due(x, "copy(0, 1, 0, 0, 5)", 1);
            dueItems(x, 0, form, 11, 10, 11, 12, 13, 13);
            due(x, "copy(0, 0, 0, 0, 6)", 1);
            dueItems(x, 0, form, 11, 10, 11, 12, 13, 13);
            due(x, "copy(0, 6, 1, 4, 0)", 1);
            due(x, "copy(1, 4, 0, 6, 0)", 1);
            due(x, "copy(1, 0, 1, 4, 0)", 1);
            dueItems(x, 0, form, 11, 10, 11, 12, 13, 13);
            dueItems(x, 1, form, 12, 13, 14, 10);
            go(x, "sheet(3, " + form + ", 0)");
            due(x, "copy(3, 0, 3, 0, 0)", 1);
            due(x, "copy(3, 0, 0, 6, 0)", 1);
            due(x, "count(8)", 0);
        }
    }

    private static void copyOutside() {
        says("BAD: the SHEETS; NULL: s, t; STORE; INDEX: below 0, not so many.");
        DotSquares x = twoSheets(1);
        for (int bad : outside(4)) {
            due(x, "copy(" + bad + ", 0, 0, 0, 1)", BAD);
            due(x, "copy(0, 0, " + bad + ", 0, 1)", BAD);
            due(x, "copy(3, 0, " + bad + ", 0, 1)", BAD);
        }
        due(x, "count(8)", 0);
        due(x, "copy(3, 0, 3, 0, 0)", NULL);
        due(x, "copy(3, -1, 0, 0, 1)", NULL);
        due(x, "copy(0, 0, 3, -1, 1)", NULL);
        due(x, "count(8)", 1);
        due(x, "copy(0, 0, 2, 0, 1)", STORE);
        due(x, "copy(2, -1, 0, 0, -1)", STORE);
        due(x, "copy(0, 0, 2, 0, 0)", STORE);
        due(x, "count(8)", 4);
        int[][] outside = {{-1, 0, 1}, {0, -1, 1}, {0, 0, -1}, {-1, 0, 0}, {0, -1, 0}, {0, 0, 5}, {3, 0, 4}, {0, 1, 4},
            {6, 0, 1}, {7, 0, 0}, {0, 4, 1}, {0, 5, 0}, {LEAST, 0, 1}, {0, LEAST, 1}, {0, 0, LEAST}, {MOST, 0, 1},
            {0, MOST, 1}, {0, 0, MOST}, {1, 1, MOST}, {MOST, MOST, MOST}, {LEAST, LEAST, LEAST}, {MOST, 0, LEAST}};
        for (int[] o : outside) {
            due(x, "copy(0, " + o[0] + ", 1, " + o[1] + ", " + o[2] + ")", INDEX);
        }
        due(x, "copy(1, 0, 0, 3, 4)", INDEX);
        due(x, "copy(0, 0, 0, 1, 6)", INDEX);
        due(x, "copy(0, 1, 0, 0, 6)", INDEX);
        due(x, "count(8)", 2);
        dueItems(x, 0, 1, 10, 11, 12, 13, 14, 15);
        dueItems(x, 1, 1, 0, 0, 0, 0);
    }

    private static void write() {
        section("Promise 29");
        says("Dots of a ROW as they are SEEN, COLUMN by COLUMN, come to a SHEET from item 0 on, as many as there are "
                + "items, 15 at most: how many.");
        for (int form = 0; form < 3; form++) {
            for (int n : new int[] {0, 1, 14, 15, 16, 60}) {
                DotSquares x = typed("top", 65, 66);
                int row = n % 15;
                go(x, "turn(" + row + ", 13)", "lost(" + row + ", 0)", "lost(" + row + ", 14)");
                go(x, "sheet(" + form + ", " + form + ", " + n + ")");
                for (int i = 0; i < n; i++) {
                    go(x, "lay(" + form + ", " + form + ", " + i + ", 9)");
                }
                due(x, "write(" + row + ", " + form + ")", Math.min(n, 15));
                for (int i = 0; i < n; i++) {
                    due(x, "get(" + form + ", " + form + ", " + i + ")", i < 15 ? x.seen(row, i) : 9);
                }
                due(x, "lose(" + form + ")", n);
            }
        }
        says("BAD; NULL; NOT: there is no MARK.");
        for (DotSquares x : new DotSquares[] {new DotSquares(), tooLong()}) {
            go(x, "sheet(1, 0, 2)", "lay(1, 0, 0, 7)");
            for (int bad : outside(15)) {
                due(x, "write(" + bad + ", 1)", BAD);
                due(x, "write(" + bad + ", 0)", BAD);
            }
            for (int bad : outside(4)) {
                due(x, "write(0, " + bad + ")", BAD);
            }
            due(x, "count(8)", 0);
            due(x, "write(14, 0)", NULL);
            due(x, "count(8)", 1);
            due(x, "write(14, 1)", x.mark(3) == 1 ? NOT : 2);
            due(x, "get(1, 0, 0)", x.mark(3) == 1 ? 7 : 1);
        }
    }

    private static void count() {
        section("Promise 30");
        says("0 bytes of THE TEXT, 1 LEVEL, 2 MASK (NONE), 3 READ, 4 dots that are TURNED, 5 that are LOST, "
                + "6 DAMAGE that is known, 7 dark dots of THE SQUARE (0: there is no MARK), "
                + "8 the number of the latest FINDING (0 before any).");
        DotSquares x = typed("mid", bytes(14));
        go(x, "turn(0, 0)", "turn(0, 1)", "turn(0, 1)", "lost(7, 7)", "lost(7, 8)");
        int dark = 0;
        for (int row = 0; row < 15; row++) {
            dark += Integer.bitCount(x.dots(x.mark(1), row));
        }
        dueCounts(x, 14, 1, x.mark(1), 0, 1, 2, 5, dark, 0);
        go(x, "lose(0)", "sheet(0, 0, -1)");
        due(x, "count(8)", 5);
        DotSquares none = tooLong();
        go(none, "turn(0, 0)", "lost(0, 0)");
        dueCounts(none, 12, 2, NONE, 4, 1, 1, 2, 0, 0);
        says("BAD.");
        for (int bad : outside(9)) {
            due(x, "count(" + bad + ")", BAD);
            due(none, "count(" + bad + ")", BAD);
        }
    }

    private static void dueCounts(DotSquares x, int... want) {
        for (int what = 0; what < want.length; what++) {
            due(x, "count(" + what + ")", want[what]);
        }
    }

    private static void digest() {
        section("Promise 31");
        says("h is 17; h becomes 31 h and each of: count() 0 to 7; fault(), mark() 0 to 3; of BLOCKS and 0 to 13 "
                + "symbol(the BLOCK, it), mended(the BLOCK, it), and then block(the BLOCK, 0 to 2); of MASKS -1 to 3 "
                + "and ROWS dots(the MASK, the ROW); of MASKS 0 to 3 penalty(); of dots, by ROWS and COLUMNS, seen(); "
                + "why(), of -1 to 13 told(), format() 0, 1, straw() 0, 1; as longs that wrap.");
        due(new DotSquares(), "digest()", 6624148723622932656L);
        String[] hurts = {"turn(0, 3)", "lost(3, 0)", "turn(3, 11)", "lost(1, 8)", "turn(2, 9)", "turn(2, 5)"};
        for (int level = 0; level < 3; level++) {
            for (int n : new int[] {0, 1, 11, 12, 14}) {
                DotSquares x = typed(LEVELS[level], bytes(n));
                due(x, "digest()", digestOf(x));
                for (String hurt : hurts) {
                    go(x, hurt);
                    long digest = x.digest();
                    equal("digest()", digest, digestOf(x));
                }
                long before = x.digest();
                go(x, "lose(0)", "turn(15, 15)", "told(99)");
                due(x, "digest()", before);
            }
        }
    }

    private static long digestOf(DotSquares x) {
        StringBuilder calls = new StringBuilder();
        for (int i = 0; i < 8; i++) {
            calls.append("count(").append(i).append(");");
        }
        calls.append("fault();mark(0);mark(1);mark(2);mark(3);");
        for (int block = 0; block < 3; block++) {
            for (int p = 0; p < 14; p++) {
                String at = "(" + block + ", " + p + ");";
                calls.append("symbol").append(at).append("mended").append(at);
            }
            for (int what = 0; what < 3; what++) {
                calls.append("block(" + block + ", " + what + ");");
            }
        }
        for (int i = 0; i < 75; i++) {
            calls.append("dots(" + (i / 15 - 1) + ", " + i % 15 + ");");
        }
        calls.append("penalty(0);penalty(1);penalty(2);penalty(3);");
        for (int at = 0; at < 225; at++) {
            calls.append("seen(" + at / 15 + ", " + at % 15 + ");");
        }
        calls.append("why();");
        for (int i = -1; i < 14; i++) {
            calls.append("told(" + i + ");");
        }
        calls.append("format(0);format(1);straw(0);straw(1)");
        long h = 17;
        for (String call : calls.toString().split(";")) {
            h = 31 * h + answer(x, call);
        }
        return h;
    }
}
