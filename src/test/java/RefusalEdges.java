import java.util.ArrayList;
import java.util.List;

/** Boundary cases of the sentence on refusals: which comes first, and that they change nothing. */
final class RefusalEdges extends Edge {
    /** How the objects are made on which refused calls are tried: by how each is read, 0 to 4, and full texts. */
    private static final int KINDS = 6;
    private static final String[] READING = {"told(-2)", "told(14)", "format(2)", "format(-1)", "block(3, 0)",
        "block(0, 3)", "mended(3, 0)", "mended(0, 14)", "straw(2)", "straw(-1)", "mark(4)", "mark(-1)",
        "symbol(3, 0)", "symbol(0, 14)", "dots(-2, 0)", "dots(4, 0)", "dots(0, 15)", "penalty(-1)", "penalty(4)",
        "place(15, 0, 0)", "place(0, 15, 0)", "place(0, 0, 2)", "seen(15, 0)", "seen(0, -1)", "count(9)", "count(-1)"};
    private static final String[] WRITING = {"type(2, 0)", "type(-1, 0)", "type(0, 256)", "type(1, -1)", "wipe(2)",
        "wipe(-1)", "undo(2)", "undo(-1)", "read(4)", "read(-1)", "field(16, 0, 0)", "field(0, 16, 1)",
        "field(0, 0, 3)", "turn(15, 0)", "turn(0, -1)", "lost(-1, 0)", "lost(0, 15)", "sheet(4, 0, 0)",
        "sheet(0, 3, 0)", "sheet(0, 0, 61)", "sheet(-1, 0, -1)", "sheet(0, -1, -1)", "lose(4)", "lose(-1)",
        "lay(4, 0, 0, 1)", "lay(0, 3, 0, 1)", "copy(4, 0, 0, 0, 1)", "copy(0, 0, -1, 0, 1)", "write(15, 0)",
        "write(0, 4)"};
    private static final Object[][] FINDINGS = {
        {"read(3)", NULL, 1}, {"lose(3)", NULL, 1}, {"lay(3, 0, 0, 1)", NULL, 1}, {"copy(3, 0, 0, 0, 1)", NULL, 1},
        {"copy(0, 0, 3, 0, 1)", NULL, 1}, {"write(0, 3)", NULL, 1}, {"lay(0, 0, 3, 1)", INDEX, 2},
        {"lay(0, 0, -1, 1)", INDEX, 2}, {"copy(0, 2, 0, 0, 2)", INDEX, 2}, {"copy(0, 0, 0, 2, 2)", INDEX, 2},
        {"copy(0, 0, 0, 0, -1)", INDEX, 2}, {"lay(0, 1, 0, 1)", CAST, 3}, {"lay(2, 0, 0, 1)", CAST, 3},
        {"copy(0, 0, 1, 0, 1)", STORE, 4}, {"copy(2, 0, 1, 0, 1)", STORE, 4}, {"sheet(0, 0, -1)", SIZE, 5},
        {"sheet(3, 2, -60)", SIZE, 5}, {"get(3, 0, 0)", LEAST, 1}, {"get(0, 0, 3)", LEAST, 2},
        {"get(0, 2, 0)", LEAST, 3}};

    static void all() {
        section("Terms");
        order();
        says("They change nothing (FINDINGS but count() 8).");
        for (int kind = 0; kind < KINDS; kind++) {
            for (String call : READING) {
                changesNothing(kind, call, BAD, 0);
            }
            for (String call : WRITING) {
                changesNothing(kind, call, BAD, 0);
            }
            for (Object[] finding : FINDINGS) {
                changesNothing(kind, (String) finding[0], (Integer) finding[1], (Integer) finding[2]);
            }
            changesNothing(kind, "get(4, 0, 0)", LEAST, 0);
            changesNothing(kind, "get(0, -1, 0)", LEAST, 0);
        }
        others();
    }

    private static void others() {
        String[] withoutAMark = {"dots(0, 0)", "penalty(3)", "seen(0, 0)", "told(-1)", "told(0)", "block(0, 0)",
            "mended(0, 0)", "write(0, 0)", "write(0, 1)"};
        for (String call : withoutAMark) {
            changesNothing(4, call, NOT, 0);
        }
        for (int why = 1; why <= 3; why++) {
            changesNothing(why, "told(-1)", NOT, 0);
            changesNothing(why, "told(13)", NOT, 0);
        }
        changesNothing(1, "block(2, 2)", NOT, 0);
        changesNothing(1, "mended(2, 13)", NOT, 0);
        changesNothing(5, "type(0, 7)", FULL, 0);
        changesNothing(5, "type(1, 112)", FULL, 0);
        changesNothing(5, "back()", NOT, 0);
        changesNothing(3, "undo(0)", NOT, 0);
    }

    private static DotSquares made(int kind) {
        DotSquares x = kind == 3 ? typed("mid") : kind == 4 ? typed("top", bytes(13))
                : typed("mid", bytes(kind == 5 ? 14 : 6));
        go(x, "sheet(0, 0, 3)", "sheet(1, 1, 2)", "sheet(2, 2, 5)", "lay(0, 0, 0, 5)", "lay(0, 0, 2, -6)",
                "lay(1, 1, 1, 300)", "lay(2, 2, 4, 70000)");
        if (kind != 5) {
            go(x, "turn(7, 3)", "lost(7, 4)", "turn(7, 3)", "lost(1, 1)");
        }
        if (kind == 1) {
            go(x, "lost(3, 0)", "turn(3, 11)");
        } else if (kind == 2) {
            for (int p = 3; p < 8; p++) {
                loseSymbol(x, 2, p);
            }
        } else if (kind == 3) {
            forge(x, 1, 15);
        }
        due(x, "why()", kind % 5);
        return x;
    }

    /** A refused call on one of two objects that were made alike; then all that can be told of them is alike. */
    private static void changesNothing(int kind, String call, int want, int finding) {
        DotSquares x = made(kind);
        DotSquares y = made(kind);
        due(x, call, want);
        due(x, "count(8)", finding);
        due(x, call, want);
        List<Long> got = account(x);
        List<Long> wanted = account(y);
        holds("as if there had been no " + call, got.equals(wanted));
    }

    /** All that an object tells, taken to pieces on the way: sheets, damage, texts. */
    private static List<Long> account(DotSquares x) {
        List<Long> told = new ArrayList<>();
        told.add(x.digest());
        int[] sizes = {3, 2, 5};
        for (int s = 0; s < 3; s++) {
            for (int i = 0; i < sizes[s]; i++) {
                told.add((long) x.get(s, s, i));
            }
        }
        for (int s = 0; s < 4; s++) {
            told.add((long) x.lose(s));
        }
        for (int i = 0; i < 60; i++) {
            told.add((long) x.back());
            told.add(100L * x.count(4) + x.count(5));
        }
        told.add(x.digest());
        for (int i = 0; i < 15; i++) {
            told.add((long) x.undo(0));
            told.add((long) x.told(0));
        }
        for (int i = 0; i < 4; i++) {
            told.add((long) x.fault());
            told.add((long) x.undo(1));
        }
        told.add(x.digest());
        return told;
    }

    private static void order() {
        says("Refusals, the first that fits, in the order told at each act: BAD -2 (a number not as told, "
                + "no such thing), NULL, NOT -3 (as told), FULL -4, other FINDINGS.");
        DotSquares full = typed("top", bytes(14));
        due(full, "type(0, 256)", BAD);
        due(full, "type(2, 0)", BAD);
        due(full, "type(1, -1)", BAD);
        due(full, "type(0, 0)", FULL);
        due(full, "dots(0, 15)", BAD);
        due(full, "penalty(4)", BAD);
        due(full, "seen(-1, 0)", BAD);
        due(full, "told(14)", BAD);
        due(full, "block(0, 3)", BAD);
        due(full, "mended(0, 14)", BAD);
        due(full, "symbol(0, 14)", BAD);
        due(full, "write(15, 0)", BAD);
        due(full, "write(0, 4)", BAD);
        due(full, "write(0, 0)", NULL);
        go(full, "sheet(0, 0, 0)");
        due(full, "write(0, 0)", NOT);
        due(full, "read(0)", 0);
        due(full, "read(1)", NULL);
        DotSquares x = new DotSquares();
        go(x, "sheet(0, 0, 2)", "sheet(1, 1, 2)");
        due(x, "undo(2)", BAD);
        due(x, "sheet(4, 0, -1)", BAD);
        due(x, "sheet(0, 3, -1)", BAD);
        due(x, "lay(4, 3, 9, 0)", BAD);
        due(x, "lay(2, 3, 9, 0)", BAD);
        due(x, "count(8)", 0);
        due(x, "lay(2, 2, 9, 0)", NULL);
        due(x, "lay(0, 2, 9, 0)", CAST);
        due(x, "lay(0, 0, 9, 0)", INDEX);
        due(x, "copy(2, 9, 4, 9, 9)", BAD);
        due(x, "copy(0, 9, 2, 9, 9)", NULL);
        due(x, "copy(2, 9, 1, 9, 9)", NULL);
        due(x, "copy(0, 9, 1, 9, 9)", STORE);
        due(x, "copy(0, 9, 0, 9, 9)", INDEX);
    }
}
