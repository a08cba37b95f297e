/** Boundary cases of the terms: levels, the field, symbols and checks. */
final class SymbolEdges extends Edge {
    static void all() {
        section("Terms");
        checksAndItems();
        fieldNumbers();
        timesTwo();
        powers();
        symbolsAre();
        itemsOfAll();
        placesOfItems();
        doesNotFit();
        checks();
    }

    private static void checksAndItems() {
        says("CHECKS of a BLOCK are 2, 4 or 6 by LEVEL, ITEMS of it 12, 10 or 8.");
        for (int level = 0; level < 3; level++) {
            DotSquares x = typed(LEVELS[level], 255);
            due(x, "mark(2)", new int[] {12, 10, 8}[level]);
            for (int block = 0; block < 3; block++) {
                due(x, "block(" + block + ", 2)", new int[] {2, 4, 6}[level]);
            }
        }
    }

    private static void fieldNumbers() {
        says("THE FIELD are 0 to 15:");
        DotSquares x = new DotSquares();
        due(x, "field(15, 1, 0)", 15);
        due(x, "field(1, 15, 0)", 15);
        due(x, "field(0, 15, 0)", 0);
        due(x, "field(15, 0, 0)", 0);
        due(x, "field(16, 1, 0)", BAD);
        due(x, "field(1, 16, 0)", BAD);
        due(x, "field(-1, 1, 0)", BAD);
        due(x, "field(1, -1, 0)", BAD);
        for (int a = 0; a < 16; a++) {
            for (int b = 0; b < 16; b++) {
                int product = x.field(a, b, 0);
                holds(a + " times " + b + " is 0 to 15", product >= 0 && product <= 15);
                holds(a + " times " + b + " is 0 for 0 alone", product == 0 == (a == 0 || b == 0));
            }
        }
        says("two are added bit by bit (without carrying);");
        for (int abc = 0; abc < 4096; abc++) {
            int a = abc & 15;
            int b = abc >> 4 & 15;
            int c = abc >> 8;
            equal("sum of " + a + " and " + b + " times " + c,
                    x.field(a ^ b, c, 0), x.field(a, c, 0) ^ x.field(b, c, 0));
        }
    }

    private static void timesTwo() {
        says("times 2 is: twice as much, and, if that is 16 or more, with 19 bit by bit;");
        DotSquares x = new DotSquares();
        due(x, "field(0, 2, 0)", 0);
        due(x, "field(7, 2, 0)", 14);
        due(x, "field(8, 2, 0)", 3);
        due(x, "field(9, 2, 0)", 1);
        due(x, "field(15, 2, 0)", 13);
        due(x, "field(2, 7, 0)", 14);
        due(x, "field(2, 8, 0)", 3);
        says("times any other number by its bits.");
        for (int a = 0; a < 16; a++) {
            int two = x.field(a, 2, 0);
            int four = x.field(two, 2, 0);
            int eight = x.field(four, 2, 0);
            for (int b = 0; b < 16; b++) {
                int sum = ((b & 1) != 0 ? a : 0) ^ ((b & 2) != 0 ? two : 0)
                        ^ ((b & 4) != 0 ? four : 0) ^ ((b & 8) != 0 ? eight : 0);
                due(x, "field(" + a + ", " + b + ", 0)", sum);
            }
        }
    }

    private static void powers() {
        says("POWER k is 2 times itself, so often (POWER 0 is 1, POWER 15 too).");
        DotSquares x = new DotSquares();
        int[] powers = {1, 2, 4, 8, 3, 6, 12, 11, 5, 10, 7, 14, 15, 13, 9, 1};
        for (int k = 0; k <= 15; k++) {
            due(x, "field(2, " + k + ", 2)", powers[k]);
        }
        says("Each but 0 has its inverse.");
        for (int a = 1; a < 16; a++) {
            int inverse = x.field(1, a, 1);
            holds("the inverse of " + a + " is 1 to 15", inverse >= 1 && inverse <= 15);
            due(x, "field(" + a + ", " + inverse + ", 0)", 1);
        }
        due(x, "field(1, 0, 1)", NONE);
    }

    private static void symbolsAre() {
        says("SYMBOLS are 0 to 15.");
        boolean least = false;
        boolean most = false;
        for (int level = 0; level < 3; level++) {
            for (int b : new int[] {0, 1, 15, 16, 240, 255}) {
                DotSquares x = typed(LEVELS[level], b, b, b, 255 - b, 255 - b, b, b, b, b, b, b);
                for (int i = 0; i < 42; i++) {
                    int symbol = x.symbol(i % 3, i / 3);
                    holds("symbol " + i + " is 0 to 15", symbol >= 0 && symbol <= 15);
                    least = least || symbol == 0;
                    most = most || symbol == 15;
                }
            }
        }
        holds("0 and 15 were met", least && most);
    }

    private static void itemsOfAll() {
        says("ITEMS of all: how many bytes THE TEXT has, then of each byte the upper half and the lower one, "
                + "then 0 as long as there is room:");
        for (int level = 0; level < 3; level++) {
            for (int n = 0; n <= LONGEST[level]; n++) {
                int[] bytes = bytes(n);
                DotSquares x = typed(LEVELS[level], bytes);
                due(x, "symbol(0, 0)", n);
                for (int i = 1; i < 3 * (12 - 2 * level); i++) {
                    int half = i > 2 * n ? 0 : i % 2 == 1 ? bytes[(i - 1) / 2] / 16 : bytes[i / 2 - 1] % 16;
                    due(x, "symbol(" + i % 3 + ", " + i / 3 + ")", half);
                }
            }
        }
    }

    private static void placesOfItems() {
        says("ITEM i is in BLOCK i modulo 3 (0 to 2), there at i by 3, cut.");
        DotSquares x = typed("mid", 0x12, 0x34, 0, 0, 0, 0, 0, 0, 0, 0, 0, 0, 0, 0xAB);
        due(x, "symbol(0, 0)", 14);
        due(x, "symbol(1, 0)", 1);
        due(x, "symbol(2, 0)", 2);
        due(x, "symbol(0, 1)", 3);
        due(x, "symbol(1, 1)", 4);
        due(x, "symbol(2, 8)", 0);
        due(x, "symbol(0, 9)", 10);
        due(x, "symbol(1, 9)", 11);
        due(x, "symbol(2, 9)", 0);
        x = typed("top", 0, 0, 0, 0, 0, 0, 0, 0, 0, 0, 0xCD);
        due(x, "symbol(2, 6)", 0);
        due(x, "symbol(0, 7)", 12);
        due(x, "symbol(1, 7)", 13);
        due(x, "symbol(2, 7)", 0);
    }

    private static void doesNotFit() {
        says("A TEXT that does not fit makes no MARK (TOO LONG).");
        for (int level = 0; level < 3; level++) {
            for (int n = 0; n <= 14; n++) {
                DotSquares x = typed(LEVELS[level], bytes(n));
                boolean fits = n <= LONGEST[level];
                due(x, "mark(3)", fits ? 0 : 1);
                due(x, "why()", fits ? 0 : 4);
                due(x, "told(-1)", fits ? n : NOT);
                due(x, "count(0)", n);
            }
        }
        DotSquares x = typed("top", bytes(12));
        go(x, "turn(0, 0)", "lost(14, 14)", "sheet(0, 0, 3)");
        noMark(x, 2);
        due(x, "undo(0)", 11);
        due(x, "mark(3)", 0);
        due(x, "told(10)", 200 + 370 & 255);
        go(x, "type(0, 0)");
        noMark(x, 2);
        due(x, "undo(1)", 2);
        due(x, "mark(3)", 0);
        due(x, "seen(0, 0)", 0);
        due(x, "seen(14, 14)", 2);
        due(x, "why()", 0);
        due(x, "told(11)", 0);
    }

    private static void noMark(DotSquares x, int level) {
        String[] none = {"mark(1)", "symbol(0, 0)", "symbol(2, 13)", "format(0)", "format(1)", "straw(0)",
            "straw(1)", "count(2)"};
        String[] not = {"dots(-1, 0)", "dots(3, 14)", "penalty(0)", "penalty(3)", "seen(0, 0)", "seen(14, 14)",
            "told(-1)", "told(13)", "block(0, 0)", "block(2, 2)", "mended(0, 0)", "mended(2, 13)", "write(0, 0)"};
        for (String call : none) {
            due(x, call, NONE);
        }
        for (String call : not) {
            due(x, call, NOT);
        }
        due(x, "mark(0)", level);
        due(x, "mark(3)", 1);
        due(x, "count(3)", 4);
        due(x, "count(7)", 0);
        due(x, "count(4)", 1);
        due(x, "count(5)", 1);
    }

    private static void checks() {
        says("Behind ITEMS of a BLOCK are its CHECKS: such that all 14 SYMBOLS c of it, at 0 to 13, have the sum 0 of "
                + "c at p times POWER j times (13 less p) in THE FIELD, for each j from 0 to ahead of CHECKS.");
        for (int level = 0; level < 3; level++) {
            int checks = 2 + 2 * level;
            boolean moreIsNot0 = false;
            for (int n = 0; n <= LONGEST[level]; n++) {
                DotSquares x = typed(LEVELS[level], bytes(n));
                for (int block = 0; block < 3; block++) {
                    for (int j = 0; j < checks; j++) {
                        equal("sum " + j + " of block " + block, sum(x, block, j), 0);
                    }
                    moreIsNot0 = moreIsNot0 || sum(x, block, checks) != 0;
                }
            }
            holds("the sum at CHECKS is no more 0", moreIsNot0);
        }
        DotSquares empty = new DotSquares();
        for (int i = 0; i < 42; i++) {
            due(empty, "symbol(" + i % 3 + ", " + i / 3 + ")", 0);
        }
    }

    private static int sum(DotSquares x, int block, int j) {
        int sum = 0;
        for (int p = 0; p < 14; p++) {
            sum ^= Naive.times(x.symbol(block, p), Naive.power(j * (13 - p)));
        }
        return sum;
    }
}
