/** Boundary cases of promises 1 to 7: a new object, texts, the field. */
final class TextPromiseEdges extends Edge {
    static void all() {
        newObject();
        type();
        wipe();
        undo();
        fault();
        read();
        readStops();
        field();
    }

    private static void newObject() {
        section("Promise 1");
        says("No TEXT, no DAMAGE; all SHEETS are LOST.");
        DotSquares other = typed("top", bytes(11));
        go(other, "turn(0, 0)", "lost(1, 1)", "sheet(0, 2, 5)", "lose(3)");
        DotSquares x = new DotSquares();
        for (int what : new int[] {0, 1, 3, 4, 5, 6, 8}) {
            due(x, "count(" + what + ")", 0);
        }
        due(x, "undo(0)", NOT);
        due(x, "undo(1)", NOT);
        due(x, "fault()", NONE);
        due(x, "back()", NOT);
        due(x, "heal()", 0);
        for (int s = 0; s < 4; s++) {
            due(x, "lose(" + s + ")", NULL);
        }
        due(x, "mark(3)", 0);
        due(x, "digest()", new Naive().digest());
    }

    private static void type() {
        section("Promise 2");
        says("A byte (0 to 255) comes behind a text (0, 1): how many.");
        DotSquares x = new DotSquares();
        for (int n = 1; n <= 14; n++) {
            due(x, "type(0, " + (n % 2 == 0 ? 255 : 0) + ")", n);
        }
        for (int n = 1; n <= 3; n++) {
            due(x, "type(1, " + (n % 2 == 0 ? 255 : 0) + ")", n);
        }
        asIfNeverAsked("type(0, 255)", "type(0, 254)", "type(1, 116)", "type(1, 111)", "type(1, 112)", "type(0, 0)");
        says("BAD; FULL.");
        due(x, "type(0, 0)", FULL);
        due(x, "type(1, 255)", FULL);
        for (int bad : outside(256)) {
            due(x, "type(0, " + bad + ")", BAD);
            due(x, "type(1, " + bad + ")", BAD);
        }
        for (int bad : outside(2)) {
            due(x, "type(" + bad + ", 0)", BAD);
        }
        due(x, "count(0)", 14);
        due(x, "wipe(1)", 3);
        due(x, "type(0, 0)", FULL);
        due(x, "type(1, 0)", 1);
    }

    private static void wipe() {
        section("Promise 3");
        says("A text is empty: how many bytes it had.");
        DotSquares x = typed("top", bytes(14));
        due(x, "wipe(0)", 14);
        due(x, "wipe(0)", 0);
        due(x, "undo(0)", NOT);
        due(x, "mark(0)", 2);
        due(x, "mark(3)", 0);
        due(x, "type(0, 9)", 1);
        due(x, "told(0)", 9);
        due(x, "told(1)", NONE);
        due(x, "wipe(1)", 3);
        due(x, "wipe(1)", 0);
        due(x, "fault()", NONE);
        due(x, "mark(0)", 0);
        due(x, "count(0)", 1);
        asIfNeverAsked("type(0, 255)", "type(0, 255)", "wipe(0)", "type(0, 1)", "type(1, 116)", "type(1, 111)",
                "type(1, 112)", "wipe(1)", "wipe(0)");
        says("BAD.");
        for (int bad : outside(2)) {
            due(x, "wipe(" + bad + ")", BAD);
        }
        due(x, "wipe(0)", 1);
    }

    private static void undo() {
        section("Promise 4");
        says("The last byte of a text is undone: how many are left.");
        DotSquares x = typed("mid", bytes(14));
        for (int left = 13; left >= 0; left--) {
            due(x, "undo(0)", left);
            due(x, "told(-1)", left);
            due(x, "told(" + left + ")", NONE);
        }
        for (int left = 2; left >= 0; left--) {
            due(x, "undo(1)", left);
            due(x, "fault()", left == 0 ? NONE : left);
            due(x, "mark(0)", 0);
        }
        asIfNeverAsked("type(0, 255)", "type(0, 7)", "undo(0)", "type(1, 109)", "type(1, 105)", "type(1, 100)",
                "undo(1)", "undo(0)");
        says("BAD; NOT: it is empty.");
        due(x, "undo(0)", NOT);
        due(x, "undo(1)", NOT);
        for (int bad : outside(2)) {
            due(x, "undo(" + bad + ")", BAD);
        }
        due(x, "type(0, 8)", 1);
        due(x, "undo(1)", NOT);
        due(x, "undo(0)", 0);
    }

    private static void fault() {
        section("Promise 5");
        says("The FAULT of THE LEVEL; NONE.");
        due(new DotSquares(), "fault()", NONE);
        due(typed("top"), "fault()", NONE);
        due(typed("t"), "fault()", 1);
        due(typed("to"), "fault()", 2);
        due(typed("tom"), "fault()", 2);
        due(typed("tmp"), "fault()", 1);
        due(typed("otp"), "fault()", 0);
        due(typed("", 't', 'o'), "fault()", NONE);
    }

    private static void read() {
        section("Promise 6");
        says("Bytes from a SHEET come behind THE TEXT: its items, as many as may: how many.");
        for (int have = 0; have <= 14; have++) {
            for (int items : new int[] {0, 1, 13, 14, 15, 60}) {
                DotSquares x = typed("low", bytes(have));
                go(x, "sheet(1, 2, " + items + ")");
                for (int i = 0; i < items; i++) {
                    go(x, "lay(1, 2, " + i + ", " + (255 - i) + ")");
                }
                int come = Math.min(items, 14 - have);
                due(x, "read(1)", come);
                due(x, "count(0)", have + come);
                due(x, "told(-1)", have + come);
                if (come > 0) {
                    due(x, "told(" + have + ")", 255);
                    due(x, "told(" + (have + come - 1) + ")", 256 - come);
                }
                due(x, "lose(1)", items);
            }
        }
        asIfNeverAsked("type(0, 9)", "sheet(1, 1, 3)", "lay(1, 1, 0, 255)", "read(1)", "read(1)");
        says("BAD; NULL.");
        DotSquares x = typed("low", 1);
        for (int bad : outside(4)) {
            due(x, "read(" + bad + ")", BAD);
        }
        due(x, "count(8)", 0);
        due(x, "read(3)", NULL);
        due(x, "count(8)", 1);
        due(x, "count(0)", 1);
    }

    /** An item that is no byte ends it, and so does a text that is full. */
    private static void readStops() {
        int[][] stops = {{1, 256}, {1, -1}, {1, 32767}, {1, -32768}, {2, 256}, {2, -1}, {2, LEAST}, {2, MOST},
            {0, -1}, {0, -128}, {0, 128}, {0, 255}};
        for (int[] stop : stops) {
            DotSquares x = typed("low", 5);
            int form = stop[0];
            go(x, "sheet(2, " + form + ", 5)", "lay(2, " + form + ", 0, 127)",
                    "lay(2, " + form + ", 2, " + stop[1] + ")");
            due(x, "read(2)", 2);
            due(x, "told(-1)", 3);
            due(x, "told(1)", 127);
            due(x, "told(2)", 0);
            go(x, "copy(2, 2, 2, 0, 1)");
            due(x, "read(2)", 0);
            due(x, "count(0)", 3);
            due(x, "count(8)", 0);
        }
        DotSquares x = typed("low", bytes(13));
        go(x, "sheet(0, 1, 2)", "lay(0, 1, 0, 255)", "lay(0, 1, 1, 999)");
        due(x, "read(0)", 1);
        due(x, "told(13)", 255);
        due(x, "read(0)", 0);
    }

    private static void field() {
        section("Promise 7");
        says("Two of THE FIELD (0 to 15) times each other (what = 0),");
        DotSquares x = new DotSquares();
        due(x, "field(0, 0, 0)", 0);
        due(x, "field(15, 15, 0)", 10);
        due(x, "field(1, 1, 0)", 1);
        says("the first by the second (1; by 0: NONE),");
        for (int a = 0; a < 16; a++) {
            due(x, "field(" + a + ", 0, 1)", NONE);
            due(x, "field(" + a + ", 1, 1)", a);
            for (int b = 1; b < 16; b++) {
                due(x, "field(" + Naive.times(a, b) + ", " + b + ", 1)", a);
            }
        }
        says("the first so often itself (2: the second 0 to 15; 0: 1).");
        for (int a = 0; a < 16; a++) {
            due(x, "field(" + a + ", 0, 2)", 1);
            due(x, "field(" + a + ", 1, 2)", a);
            due(x, "field(" + a + ", 15, 2)", a == 0 ? 0 : 1);
            due(x, "field(" + a + ", 14, 2)", a == 0 ? 0 : x.field(1, a, 1));
        }
        says("BAD.");
        for (int bad : outside(16)) {
            for (int what = 0; what < 3; what++) {
                due(x, "field(" + bad + ", 1, " + what + ")", BAD);
                due(x, "field(1, " + bad + ", " + what + ")", BAD);
            }
        }
        for (int bad : outside(3)) {
            due(x, "field(1, 0, " + bad + ")", BAD);
        }
        due(x, "field(16, 0, 1)", BAD);
    }
}
