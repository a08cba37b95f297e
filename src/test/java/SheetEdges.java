/** Boundary cases of the terms: sheets and findings. */
final class SheetEdges extends Edge {
    static void all() {
        section("Terms");
        lostAtFirst();
        formsAndSizes();
        findings();
    }

    private static void lostAtFirst() {
        says("SHEETS 0 .. 3 are LOST (at first) or a row of a FORM: 0 bytes, 1 shorts, 2 ints, "
                + "of 0 to 60 items (0 at first).");
        DotSquares x = new DotSquares();
        for (int s = 0; s < 4; s++) {
            for (int form = 0; form < 3; form++) {
                due(x, "lay(" + s + ", " + form + ", 0, 1)", NULL);
                due(x, "get(" + s + ", " + form + ", 0)", LEAST);
            }
            due(x, "lose(" + s + ")", NULL);
            due(x, "read(" + s + ")", NULL);
            due(x, "write(0, " + s + ")", NULL);
            due(x, "copy(" + s + ", 0, " + s + ", 0, 0)", NULL);
        }
        for (int bad : outside(4)) {
            due(x, "sheet(" + bad + ", 0, 1)", BAD);
        }
    }

    private static void formsAndSizes() {
        for (int form = 0; form < 3; form++) {
            for (int n = 0; n <= 60; n++) {
                int s = (n + form) % 4;
                String sheet = s + ", " + form;
                DotSquares x = new DotSquares();
                due(x, "sheet(" + sheet + ", 60)", 60);
                for (int i = 0; i < 60; i++) {
                    go(x, "lay(" + sheet + ", " + i + ", -1)");
                }
                due(x, "sheet(" + sheet + ", " + n + ")", n);
                for (int i = 0; i < n; i++) {
                    due(x, "get(" + sheet + ", " + i + ")", 0);
                }
                due(x, "count(8)", 0);
                due(x, "get(" + sheet + ", " + n + ")", LEAST);
                due(x, "count(8)", 2);
                due(x, "lay(" + sheet + ", " + n + ", 1)", INDEX);
                due(x, "lose(" + s + ")", n);
            }
        }
        DotSquares x = new DotSquares();
        due(x, "sheet(0, 0, 61)", BAD);
        due(x, "sheet(0, 3, 1)", BAD);
        due(x, "lose(0)", NULL);
        for (int s = 0; s < 4; s++) {
            due(x, "sheet(" + s + ", 2, 1)", 1);
            due(x, "lay(" + s + ", 2, 0, " + (7 + s) + ")", 1);
        }
        for (int s = 0; s < 4; s++) {
            due(x, "get(" + s + ", 2, 0)", 7 + s);
        }
    }

    private static void findings() {
        says("FINDINGS (answers -10 less the number; they change nothing but count() 8): 1 NULL: the SHEET is LOST; "
                + "2 INDEX: there is no such item; 3 CAST: it has another FORM; 4 STORE: unlike FORMS; "
                + "5 SIZE: below 0.");
        DotSquares x = new DotSquares();
        go(x, "sheet(0, 0, 2)", "sheet(1, 1, 2)");
        due(x, "count(8)", 0);
        due(x, "lose(2)", -11);
        due(x, "count(8)", 1);
        due(x, "lay(0, 0, 2, 1)", -12);
        due(x, "count(8)", 2);
        due(x, "lay(0, 1, 0, 1)", -13);
        due(x, "count(8)", 3);
        due(x, "copy(0, 0, 1, 0, 1)", -14);
        due(x, "count(8)", 4);
        due(x, "sheet(2, 0, -1)", -15);
        due(x, "count(8)", 5);
        due(x, "lose(3)", -11);
        due(x, "count(8)", 1);
        due(x, "lose(4)", BAD);
        due(x, "lay(0, 0, 1, 5)", 1);
        due(x, "undo(0)", NOT);
        due(x, "count(8)", 1);
    }
}
