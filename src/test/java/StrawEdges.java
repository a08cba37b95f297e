/** Boundary cases of the second section: which dot would be one too many. */
final class StrawEdges extends Edge {
    static void all() {
        section("Terms");
        says("STRAW: the first dot (by ROWS, COLUMNS), not LOST, that, TURNED as well, makes READ another than 0; "
                + "NONE; where READ is not 0: NONE.");
        noDamage();
        oneCheckLeft();
        besideEachSymbol();
        noneThatIsLost();
        toNoFormat();
        toLevel3();
        onlyTheLastTeller();
        turnedAlready();
        toWrong();
        otherDots();
        whereReadIsNot0();
    }

    private static void dueAt(DotSquares x, int row, int column) {
        due(x, "why()", 0);
        due(x, "straw(0)", row);
        due(x, "straw(1)", column);
        if (row != NONE) {
            int read = x.turn(row, column) < 0 ? 0 : x.why();
            holds("turned as well, read is another than 0", read != 0);
            go(x, "back()");
            due(x, "straw(0)", row);
        }
    }

    private static void noDamage() {
        for (int level = 0; level < 3; level++) {
            for (int n = 0; n <= LONGEST[level]; n++) {
                dueAt(typed(LEVELS[level], bytes(n)), NONE, NONE);
            }
        }
    }

    private static void oneCheckLeft() {
        for (int level = 0; level < 3; level++) {
            int[][] firsts = {{0, 3}, {0, 7}, {0, 11}};
            for (int block = 0; block < 3; block++) {
                DotSquares x = typed(LEVELS[level], bytes(4));
                for (int g = 0; g < 1 + 2 * level; g++) {
                    dueAt(x, NONE, NONE);
                    loseSymbol(x, block, 13 - g);
                }
                due(x, "block(" + block + ", 2)", 1);
                dueAt(x, firsts[block][0], firsts[block][1]);
            }
        }
    }

    /** One symbol gone at low: any other dot of its block is too much. */
    private static void besideEachSymbol() {
        for (int i = 0; i < 42; i++) {
            for (int which = 0; which < 4; which++) {
                DotSquares x = typed("low", bytes(3));
                int[] lost = dotOf(i % 3, i / 3, which);
                go(x, "lost(" + lost[0] + ", " + lost[1] + ")");
                int first = 225;
                for (int n = 0; n < 56; n++) {
                    int[] dot = dotOf(i % 3, n / 4, n % 4);
                    first = n / 4 == i / 3 ? first : Math.min(first, 15 * dot[0] + dot[1]);
                }
                dueAt(x, first / 15, first % 15);
            }
        }
    }

    private static void noneThatIsLost() {
        DotSquares x = typed("low", 65);
        go(x, "lost(0, 5)");
        dueAt(x, 1, 5);
        go(x, "lost(0, 3)", "lost(0, 4)", "lost(0, 6)");
        dueAt(x, 1, 5);
        go(x, "lost(1, 5)");
        asManyGoneAsChecks(x);
    }

    /** Then whatever is seen of the others is mended: the straw is where item 0 becomes 15. */
    private static void asManyGoneAsChecks(DotSquares x) {
        due(x, "block(0, 2)", 0);
        dueAt(x, 5, 3);
        go(x, "turn(5, 3)");
        due(x, "why()", 3);
        due(x, "mended(0, 0)", 15);
    }

    private static void toNoFormat() {
        for (int bit = 0; bit < 4; bit++) {
            String[] tellers = {"(3, " + bit + ")", "(3, " + (11 + bit) + ")", "(11, " + bit + ")"};
            for (int which = 0; which < 3; which++) {
                DotSquares one = typed("mid", 65);
                go(one, "lost" + tellers[which]);
                dueAt(one, 3, which == 0 ? 11 + bit : bit);
            }
        }
        DotSquares x = typed("mid", 65);
        go(x, "lost(3, 2)");
        dueAt(x, 3, 13);
        go(x, "lost(3, 13)", "lost(3, 0)");
        dueAt(x, 3, 11);
        go(x, "lost(3, 0)", "lost(11, 0)");
        dueAt(x, 3, 0);
    }

    private static void toLevel3() {
        DotSquares x = typed("top", 65);
        go(x, "turn(3, 1)");
        dueAt(x, 3, 12);
        go(x, "turn(3, 1)", "lost(3, 1)", "lost(3, 12)");
        dueAt(x, 11, 1);
    }

    private static void onlyTheLastTeller() {
        DotSquares x = typed("top", bytes(6));
        go(x, "lost(3, 3)", "lost(3, 14)");
        dueAt(x, 11, 3);
        go(x, "lost(11, 3)");
        due(x, "why()", 1);
    }

    /** All blocks of no bytes are whole by any level: another level is read, and all is well. */
    private static void turnedAlready() {
        DotSquares x = new DotSquares();
        go(x, "lost(3, 0)", "turn(3, 11)", "turn(11, 0)");
        due(x, "format(0)", 2);
        dueAt(x, 3, 11);
    }

    /**
     * With one symbol wrong at low, another dot turned in its block may be mended to another block
     * that is whole: that alone is no straw, as long as its item 0 has room. Naive tells where so.
     */
    private static void toWrong() {
        int met = 0;
        for (int at = 1; at < 14; at++) {
            for (int by = 1; by < 16; by++) {
                DotSquares x = typed("low", bytes(14));
                spoil(x, 0, at, by);
                int[] given = new int[14];
                for (int p = 0; p < 14; p++) {
                    given[p] = x.symbol(0, p);
                }
                given[at] ^= by;
                boolean othersAreWell = countAfter(given, 8) < 15 && countAfter(given, 4) < 15
                        && countAfter(given, 2) < 15;
                if (othersAreWell && countAfter(given, 1) == 15) {
                    met++;
                    dueAt(x, 0, 6);
                    go(x, "turn(0, 6)");
                    due(x, "why()", 3);
                } else if (othersAreWell) {
                    due(x, "straw(0)", countAfter(given, 1) == 16 ? 0 : x.straw(0));
                }
            }
        }
        holds("some straw made it WRONG", met > 0);
    }

    /** Item 0 as it is mended with a bit of it turned; 16: beyond. */
    private static int countAfter(int[] given, int bit) {
        int[] turned = given.clone();
        turned[0] ^= bit;
        int[] whole = Naive.mend(turned, new boolean[14], 2);
        return whole == null ? 16 : whole[0];
    }

    private static void otherDots() {
        DotSquares x = typed("low", 65);
        for (int at = 0; at < 225; at++) {
            if (x.place(at / 15, at % 15, 0) == NONE && at / 15 != 3 && at / 15 != 11) {
                go(x, (at % 2 == 0 ? "turn(" : "lost(") + at / 15 + ", " + at % 15 + ")");
            }
        }
        go(x, "turn(14, 12)", "lost(14, 13)", "turn(14, 14)");
        due(x, "block(0, 2)", 2);
        due(x, "block(2, 2)", 2);
        dueAt(x, NONE, NONE);
    }

    private static void whereReadIsNot0() {
        DotSquares format = typed("low", 65);
        go(format, "turn(3, 0)", "lost(11, 0)");
        none(format, 1);
        DotSquares beyond = typed("low", 65);
        go(beyond, "lost(0, 3)", "turn(1, 8)");
        none(beyond, 2);
        DotSquares wrong = typed("low");
        forge(wrong, 0, 15);
        none(wrong, 3);
        none(tooLong(), 4);
    }

    private static void none(DotSquares x, int why) {
        due(x, "why()", why);
        due(x, "straw(0)", NONE);
        due(x, "straw(1)", NONE);
    }
}
