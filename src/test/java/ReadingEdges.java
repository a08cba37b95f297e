/** Boundary cases of the second section: how a damaged mark is read. */
final class ReadingEdges extends Edge {
    /** The three dots of a bit of the format; the column of the bit comes to it. */
    private static final int[][] TELLERS = {{3, 0}, {3, 11}, {11, 0}};

    static void all() {
        section("Terms");
        formatByMost();
        formatNotKnown();
        byLevelAndMask();
        gone();
        mendedUpToChecks();
        oneTooMany();
        wrongCount();
        byThatLevel();
        read();
        spare();
    }

    private static String teller(int which, int bit) {
        return "(" + TELLERS[which][0] + ", " + (TELLERS[which][1] + bit) + ")";
    }

    /** What each of the three dots is made to be: 0 as it was, 1 turned, 2 lost, 3 turned and lost. */
    private static void hurtTellers(DotSquares x, int bit, int fates) {
        for (int which = 0; which < 3; which++) {
            int fate = fates >> 2 * which & 3;
            if (fate % 2 == 1) {
                go(x, "turn" + teller(which, bit));
            }
            if (fate >= 2) {
                go(x, "lost" + teller(which, bit));
            }
        }
    }

    private static void formatByMost() {
        says("each bit of FORMAT is what more of its three dots tell that are not LOST; "
                + "if none, or as many, tell so, or LEVEL is 3, FORMAT is not known.");
        for (int level = 0; level < 3; level++) {
            for (int bit = 0; bit < 4; bit++) {
                for (int fates = 0; fates < 64; fates++) {
                    DotSquares x = typed(LEVELS[level], bytes(5));
                    int format = 4 * level + x.mark(1);
                    hurtTellers(x, bit, fates);
                    int right = 0;
                    int wrong = 0;
                    for (int which = 0; which < 3; which++) {
                        right += (fates >> 2 * which & 3) == 0 ? 1 : 0;
                        wrong += (fates >> 2 * which & 3) == 1 ? 1 : 0;
                    }
                    int told = wrong > right ? format ^ 8 >> bit : format;
                    boolean known = right != wrong && told < 12;
                    due(x, "format(0)", known ? told / 4 : NONE);
                    due(x, "format(1)", known ? told % 4 : NONE);
                    holds("why() is 1 if it is not known", x.why() == 1 != known);
                }
            }
        }
    }

    private static void formatNotKnown() {
        DotSquares none = typed("low", 65);
        go(none, "lost(3, 2)", "lost(3, 13)");
        due(none, "why()", 0);
        go(none, "lost(11, 2)");
        notKnown(none);
        DotSquares asMany = typed("low", 65);
        go(asMany, "lost(3, 3)");
        due(asMany, "why()", 0);
        go(asMany, "turn(3, 14)");
        notKnown(asMany);
        DotSquares level3 = typed("top", 65);
        go(level3, "turn(3, 1)");
        due(level3, "why()", 0);
        go(level3, "turn(11, 1)");
        notKnown(level3);
        go(level3, "turn(3, 0)", "turn(3, 11)");
        due(level3, "format(0)", 1);
        DotSquares all = typed("low", 65);
        for (int bit = 0; bit < 4; bit++) {
            hurtTellers(all, bit, 0b101010);
        }
        notKnown(all);
    }

    private static void notKnown(DotSquares x) {
        due(x, "why()", 1);
        due(x, "format(0)", NONE);
        due(x, "format(1)", NONE);
        due(x, "block(0, 0)", NOT);
        due(x, "block(2, 2)", NOT);
        due(x, "mended(0, 0)", NOT);
        due(x, "told(-1)", NOT);
        due(x, "straw(0)", NONE);
    }

    private static void byLevelAndMask() {
        says("Then by its LEVEL and MASK:");
        DotSquares x = typed("top", bytes(11));
        go(x, "turn(3, 0)", "turn(3, 11)");
        due(x, "format(0)", 0);
        due(x, "mark(0)", 2);
        due(x, "why()", 0);
        due(x, "block(1, 2)", 2);
        due(x, "told(-1)", 11);
        due(x, "told(10)", 200 + 370 & 255);
        loseSymbol(x, 1, 2);
        loseSymbol(x, 1, 3);
        due(x, "why()", 0);
        loseSymbol(x, 1, 4);
        due(x, "why()", 2);
        go(x, "turn(3, 0)");
        due(x, "why()", 0);
        due(x, "block(1, 2)", 3);
        DotSquares masked = typed("mid", bytes(6));
        int other = masked.mark(1) ^ 1;
        go(masked, "turn(3, 3)", "turn(3, 14)");
        due(masked, "format(1)", other);
        due(masked, "why()", 2);
    }

    private static void gone() {
        says("a SYMBOL is GONE, if any of its dots is LOST.");
        for (int i = 0; i < 42; i++) {
            int block = i % 3;
            for (int dots = 0; dots < 16; dots++) {
                DotSquares x = typed("mid", bytes(8));
                for (int which = 0; which < 4; which++) {
                    int[] dot = dotOf(block, i / 3, which);
                    if ((dots >> which & 1) == 1) {
                        go(x, "turn(" + dot[0] + ", " + dot[1] + ")", "lost(" + dot[0] + ", " + dot[1] + ")");
                    }
                }
                due(x, "block(" + block + ", 0)", dots == 0 ? 0 : 1);
                due(x, "block(" + block + ", 1)", 0);
                due(x, "block(" + (block + 1) % 3 + ", 0)", 0);
                due(x, "mended(" + block + ", " + i / 3 + ")", x.symbol(block, i / 3));
            }
        }
        DotSquares x = typed("mid", bytes(8));
        go(x, "lost(14, 12)", "lost(14, 13)", "lost(14, 14)", "lost(7, 7)", "lost(1, 1)", "lost(3, 0)");
        for (int block = 0; block < 3; block++) {
            due(x, "block(" + block + ", 0)", 0);
        }
        due(x, "why()", 0);
    }

    /** So many symbols gone and wrong in a block, at other places each time. */
    private static DotSquares hurt(int level, int block, int gone, int wrong, int shift) {
        DotSquares x = typed(LEVELS[level], bytes(10));
        for (int i = 0; i < gone; i++) {
            loseSymbol(x, block, (3 * i + shift) % 14);
        }
        for (int i = gone; i < gone + wrong; i++) {
            spoil(x, block, (3 * i + shift) % 14, 1 + (5 * i + shift) % 15);
        }
        return x;
    }

    private static void mendedUpToChecks() {
        says("A BLOCK with g that are GONE is MENDED, if there are 14 SYMBOLS with CHECKS as told that are unlike "
                + "those SEEN (of the others, that are not GONE) in w places, and g and twice w are CHECKS at most "
                + "(there is one such at most); else it is BEYOND.");
        for (int level = 0; level < 3; level++) {
            int checks = 2 + 2 * level;
            for (int gone = 0; gone <= checks; gone++) {
                for (int wrong = 0; gone + 2 * wrong <= checks; wrong++) {
                    for (int shift = 0; shift < 14; shift++) {
                        DotSquares x = hurt(level, shift % 3, gone, wrong, shift);
                        due(x, "block(" + shift % 3 + ", 0)", gone);
                        due(x, "block(" + shift % 3 + ", 1)", wrong);
                        due(x, "why()", 0);
                        for (int p = 0; p < 14; p++) {
                            due(x, "mended(" + shift % 3 + ", " + p + ")", x.symbol(shift % 3, p));
                        }
                    }
                }
            }
        }
    }

    /** One more than there are checks for can never be taken for another block: those are too far. */
    private static void oneTooMany() {
        for (int level = 0; level < 3; level++) {
            int checks = 2 + 2 * level;
            for (int wrong = 0; 2 * wrong <= checks + 1; wrong++) {
                for (int shift = 0; shift < 14; shift++) {
                    int gone = checks + 1 - 2 * wrong;
                    int block = shift % 3;
                    DotSquares x = hurt(level, block, gone, wrong, shift);
                    due(x, "block(" + block + ", 0)", gone);
                    due(x, "block(" + block + ", 1)", NONE);
                    due(x, "block(" + block + ", 2)", NONE);
                    due(x, "mended(" + block + ", 0)", NONE);
                    due(x, "mended(" + block + ", 13)", NONE);
                    due(x, "block(" + (block + 1) % 3 + ", 1)", 0);
                    due(x, "why()", 2);
                }
            }
            DotSquares all = typed(LEVELS[level], bytes(10));
            for (int p = 0; p < 14; p++) {
                loseSymbol(all, 1, p);
            }
            due(all, "block(1, 0)", 14);
            due(all, "block(1, 1)", NONE);
            due(all, "why()", 2);
        }
    }

    private static void wrongCount() {
        says("If no BLOCK is, ITEM 0 is how many bytes there are; "
                + "it is WRONG, if there is not so much room by that LEVEL, or it is 15.");
        for (int level = 0; level < 3; level++) {
            for (int bytes = 0; bytes <= 15; bytes++) {
                DotSquares x = typed(LEVELS[level]);
                forge(x, level, bytes);
                boolean room = bytes <= LONGEST[level];
                due(x, "mended(0, 0)", bytes);
                due(x, "why()", room ? 0 : 3);
                due(x, "count(3)", room ? 0 : 3);
                due(x, "told(-1)", room ? bytes : NOT);
                due(x, "told(0)", room && bytes > 0 ? 0 : room ? NONE : NOT);
                due(x, "block(0, 1)", 0);
                due(x, "format(0)", level);
            }
        }
        DotSquares x = typed("top");
        forge(x, 2, 12);
        for (int p = 0; p < 7; p++) {
            loseSymbol(x, 1, p);
        }
        due(x, "why()", 2);
    }

    /** Whole blocks by top are whole by low and mid as well: the same dots, read by each level. */
    private static void byThatLevel() {
        for (int typed = 0; typed < 3; typed++) {
            for (int bytes = 11; bytes <= 15; bytes++) {
                DotSquares x = typed(LEVELS[typed]);
                int mask = x.mark(1);
                forge(x, 2, bytes);
                for (int level = 0; level < 3; level++) {
                    DotSquares y = typed(LEVELS[typed]);
                    forge(y, 2, bytes);
                    hurtTellers(y, 0, (typed ^ level) >= 2 ? 0b010101 : 0);
                    hurtTellers(y, 1, (typed ^ level) % 2 == 1 ? 0b010101 : 0);
                    due(y, "format(0)", level);
                    due(y, "format(1)", mask);
                    due(y, "why()", bytes <= LONGEST[level] ? 0 : 3);
                    due(y, "told(-1)", bytes <= LONGEST[level] ? bytes : NOT);
                }
            }
        }
    }

    private static void read() {
        says("READ: 0 all is well, 1 FORMAT is not known, 2 a BLOCK is BEYOND, 3 it is WRONG, 4 there is no MARK.");
        due(new DotSquares(), "why()", 0);
        DotSquares x = typed("low");
        forge(x, 0, 15);
        due(x, "why()", 3);
        loseSymbol(x, 2, 1);
        loseSymbol(x, 2, 2);
        due(x, "why()", 3);
        loseSymbol(x, 2, 3);
        due(x, "why()", 2);
        go(x, "lost(3, 0)", "lost(3, 11)", "lost(11, 0)");
        due(x, "why()", 1);
        go(x, "type(1, 0)", "wipe(1)", "type(1, 116)", "type(1, 111)", "type(1, 112)");
        due(x, "why()", 1);
        for (int n = 0; n < 12; n++) {
            go(x, "type(0, 0)");
        }
        due(x, "why()", 4);
        due(x, "count(3)", 4);
        go(x, "heal()");
        due(x, "why()", 4);
        go(x, "undo(0)");
        due(x, "why()", 0);
    }

    private static void spare() {
        says("SPARE of a BLOCK: CHECKS less g and twice w.");
        for (int level = 0; level < 3; level++) {
            int checks = 2 + 2 * level;
            for (int gone = 0; gone <= checks + 1; gone++) {
                for (int wrong = 0; gone + 2 * wrong <= checks + 1; wrong++) {
                    DotSquares x = hurt(level, 1, gone, wrong, 4);
                    int left = checks - gone - 2 * wrong;
                    due(x, "block(1, 2)", left < 0 ? NONE : left);
                    due(x, "block(0, 2)", checks);
                    due(x, "block(2, 2)", checks);
                }
            }
        }
    }
}
