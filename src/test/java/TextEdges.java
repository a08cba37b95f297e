/** Boundary cases of the texts: the first section of the document. */
final class TextEdges extends Edge {
    static void all() {
        section("What it is");
        text();
        level();
        fault();
        faultIsLow();
        calls512();
    }

    private static void text() {
        says("THE TEXT has up to 14 bytes (0 to 255; text 0);");
        DotSquares x = new DotSquares();
        due(x, "count(0)", 0);
        due(x, "told(-1)", 0);
        due(x, "type(0, 0)", 1);
        due(x, "told(-1)", 1);
        due(x, "told(0)", 0);
        due(x, "type(0, 255)", 2);
        due(x, "told(1)", 255);
        due(x, "type(0, 256)", BAD);
        due(x, "type(0, -1)", BAD);
        for (int n = 3; n <= 14; n++) {
            due(x, "type(0, " + 17 * n + ")", n);
        }
        due(x, "told(13)", 238);
        due(x, "type(0, 1)", FULL);
        due(x, "count(0)", 14);
        due(x, "undo(0)", 13);
        due(x, "type(0, 3)", 14);
        due(x, "told(13)", 3);
        due(x, "type(0, 3)", FULL);
        for (int b = 0; b < 256; b++) {
            due(typed("", b), "told(0)", b);
        }
    }

    private static void level() {
        says("THE LEVEL is a text of up to 3 bytes (text 1): low, mid or top;");
        for (int level = 0; level < 3; level++) {
            DotSquares x = typed(LEVELS[level]);
            due(x, "mark(0)", level);
            due(x, "type(1, " + (int) LEVELS[level].charAt(2) + ")", FULL);
            due(x, "mark(0)", level);
            due(x, "count(0)", 0);
            due(x, "undo(1)", 2);
            due(x, "type(1, " + (int) LEVELS[level].charAt(2) + ")", 3);
            due(x, "count(1)", level);
        }
        DotSquares x = new DotSquares();
        due(x, "type(1, 0)", 1);
        due(x, "type(1, 255)", 2);
        due(x, "type(1, 256)", BAD);
        due(x, "type(1, -1)", BAD);
        due(x, "type(1, 7)", 3);
        due(x, "type(1, 7)", FULL);
        due(x, "wipe(1)", 3);
    }

    private static void fault() {
        says("its FAULT is the place of the first byte with which it cannot go on (one that is not ended: its end);");
        due(typed(""), "fault()", NONE);
        for (String name : LEVELS) {
            due(typed(name), "fault()", NONE);
            due(typed(name.substring(0, 1)), "fault()", 1);
            due(typed(name.substring(0, 2)), "fault()", 2);
            for (char b = 0; b < 256; b++) {
                int first = "lmt".indexOf(b) < 0 ? 0 : 1;
                due(typed("" + b), "fault()", first);
                due(typed("" + b + "zz"), "fault()", first);
                int second = b == name.charAt(1) ? 2 : 1;
                due(typed(name.substring(0, 1) + b), "fault()", second);
                due(typed(name.substring(0, 1) + b + name.charAt(2)), "fault()", second == 2 ? NONE : 1);
                int third = b == name.charAt(2) ? NONE : 2;
                due(typed(name.substring(0, 2) + b), "fault()", third);
            }
        }
        DotSquares x = typed("LOW");
        due(x, "fault()", 0);
        go(x, "wipe(1)", "type(1, 116)", "type(1, 111)", "type(1, 119)");
        due(x, "fault()", 2);
        due(x, "undo(1)", 2);
        due(x, "fault()", 2);
        due(x, "undo(1)", 1);
        due(x, "fault()", 1);
        due(x, "undo(1)", 0);
        due(x, "fault()", NONE);
    }

    private static void faultIsLow() {
        says("with a FAULT, or empty, it is low.");
        String[] names = {"", "l", "lo", "m", "mi", "t", "to", "lox", "mix", "tox", "xid", "xop", "mop", "tid",
            "MID", "Top", "pot", "" + (char) 0, "to" + (char) 255};
        DotSquares low = typed("low", 77, 0, 255);
        for (String name : names) {
            DotSquares x = typed(name, 77, 0, 255);
            due(x, "mark(0)", 0);
            due(x, "count(1)", 0);
            due(x, "mark(2)", 12);
            due(x, "format(0)", 0);
            for (int row = 0; row < 15; row++) {
                due(x, "dots(2, " + row + ")", low.dots(2, row));
            }
        }
    }

    private static void calls512() {
        says("An object is used for at most 512 calls after it has been made; what later calls answer is free.");
        DotSquares x = typed("mid", 1, 2, 3);
        Naive y = new Naive();
        go(x, "type(0, 4)");
        for (int call : new int[] {'m', 'i', 'd'}) {
            y.type(1, call);
        }
        for (int b = 1; b <= 4; b++) {
            y.type(0, b);
        }
        for (int call = 8; call < 512; call++) {
            int row = call % 14;
            int column = call * 7 % 15;
            equal("call " + call, call % 3 == 0 ? x.lost(row, column) : x.turn(row, column),
                    call % 3 == 0 ? y.lost(row, column) : y.turn(row, column));
        }
        equal("call 512", x.digest(), y.digest());
    }
}
