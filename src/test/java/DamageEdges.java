/** Boundary cases of the terms: damage and what is seen. */
final class DamageEdges extends Edge {
    static void all() {
        section("Terms");
        eachDot();
        seen();
        backInOrder();
        sixtyAreKnown();
        theRingGoesRound();
    }

    private static void eachDot() {
        says("DAMAGE: each dot may be TURNED (dark for light, light for dark) and LOST, each again turned back.");
        for (int row = 0; row < 15; row++) {
            DotSquares x = typed("mid", 9, 99, 199);
            for (int column = 0; column < 15; column++) {
                String dot = "(" + row + ", " + column + ")";
                int was = x.seen(row, column);
                due(x, "turn" + dot, 1);
                due(x, "seen" + dot, 1 - was);
                due(x, "turn" + dot, 0);
                due(x, "seen" + dot, was);
                due(x, "lost" + dot, 1);
                due(x, "seen" + dot, 2);
                due(x, "lost" + dot, 0);
                due(x, "seen" + dot, was);
            }
        }
        DotSquares x = new DotSquares();
        for (int at = 0; at < 225; at++) {
            due(x, "turn(" + at / 15 + ", " + at % 15 + ")", at + 1);
        }
        for (int at = 0; at < 225; at++) {
            due(x, "lost(" + at / 15 + ", " + at % 15 + ")", at + 1);
        }
        due(x, "count(4)", 225);
        due(x, "count(5)", 225);
        due(x, "heal()", 225);
    }

    private static void seen() {
        says("SEEN is what is left of it.");
        DotSquares x = new DotSquares();
        due(x, "seen(0, 0)", 1);
        go(x, "turn(0, 0)", "lost(0, 0)");
        due(x, "seen(0, 0)", 2);
        due(x, "lost(0, 0)", 0);
        due(x, "seen(0, 0)", 0);
        go(x, "lost(0, 0)", "turn(0, 0)");
        due(x, "seen(0, 0)", 2);
        due(x, "lost(0, 0)", 0);
        due(x, "seen(0, 0)", 1);
        go(x, "turn(0, 0)");
        due(x, "type(0, 50)", 1);
        due(x, "seen(0, 0)", 0);
        due(x, "count(4)", 1);
    }

    private static void backInOrder() {
        says("Each DAMAGE can be undone, the last one first (the last 60 are known).");
        DotSquares x = new DotSquares();
        due(x, "back()", NOT);
        go(x, "turn(4, 4)", "lost(4, 4)", "lost(4, 4)", "turn(4, 4)", "turn(15, 4)", "lost(4, -1)");
        due(x, "count(6)", 4);
        int[][] left = {{3, 1, 0}, {2, 1, 1}, {1, 1, 0}, {0, 0, 0}};
        for (int[] counts : left) {
            due(x, "back()", counts[0]);
            due(x, "count(4)", counts[1]);
            due(x, "count(5)", counts[2]);
            due(x, "count(6)", counts[0]);
        }
        due(x, "back()", NOT);
        due(x, "count(4)", 0);
    }

    /** Dot i is turned, or lost, by act i: all acts are on other dots. */
    private static void act(DotSquares x, int i) {
        String dot = "(" + i / 15 + ", " + i % 15 + ")";
        go(x, (i % 2 == 0 ? "turn" : "lost") + dot);
    }

    private static void sixtyAreKnown() {
        for (int acts : new int[] {59, 60, 61, 62, 119, 120, 121, 150}) {
            DotSquares x = typed("top", 3, 33);
            for (int i = 0; i < acts; i++) {
                act(x, i);
            }
            int known = Math.min(acts, 60);
            due(x, "count(6)", known);
            for (int i = acts - 1; i >= acts - known; i--) {
                due(x, "back()", i - (acts - known));
                due(x, "count(4)", (i + 1) / 2);
                due(x, "count(5)", i / 2);
            }
            due(x, "back()", NOT);
            due(x, "count(6)", 0);
            due(x, "heal()", acts - known);
            due(x, "back()", NOT);
        }
    }

    private static void theRingGoesRound() {
        DotSquares x = new DotSquares();
        for (int i = 0; i < 70; i++) {
            act(x, i);
        }
        for (int i = 0; i < 60; i++) {
            due(x, "back()", 59 - i);
        }
        due(x, "back()", NOT);
        for (int i = 70; i < 115; i++) {
            act(x, i);
        }
        due(x, "count(6)", 45);
        due(x, "back()", 44);
        for (int i = 115; i < 135; i++) {
            act(x, i);
        }
        due(x, "count(6)", 60);
        for (int i = 0; i < 60; i++) {
            due(x, "back()", 59 - i);
        }
        due(x, "back()", NOT);
        due(x, "count(4)", 5 + 2);
        due(x, "count(5)", 5 + 2);
        due(x, "heal()", 14);
        act(x, 0);
        due(x, "count(6)", 1);
        due(x, "back()", 0);
        due(x, "count(4)", 0);
    }
}
