/** Boundary cases of promises 13 to 17: damage. */
final class DamagePromiseEdges extends Edge {
    static void all() {
        turn();
        lost();
        back();
        heal();
        seen();
    }

    private static void turn() {
        section("Promise 13");
        says("A dot is TURNED, or turned back: how many are TURNED.");
        asIfNeverAsked("type(0, 65)", "turn(0, 3)", "turn(1, 8)", "turn(0, 3)", "turn(3, 0)", "turn(3, 11)");
        for (DotSquares x : new DotSquares[] {new DotSquares(), tooLong()}) {
            due(x, "turn(0, 0)", 1);
            due(x, "turn(14, 14)", 2);
            due(x, "turn(0, 14)", 3);
            due(x, "turn(14, 0)", 4);
            due(x, "lost(0, 0)", 1);
            due(x, "turn(0, 0)", 3);
            due(x, "turn(14, 14)", 2);
            due(x, "turn(0, 14)", 1);
            due(x, "turn(14, 0)", 0);
            due(x, "count(6)", 9);
            says("BAD.");
            badDots(x, "turn");
            due(x, "count(4)", 0);
            due(x, "count(6)", 9);
        }
    }

    private static void badDots(DotSquares x, String call) {
        for (int bad : outside(15)) {
            due(x, call + "(" + bad + ", 0)", BAD);
            due(x, call + "(14, " + bad + ")", BAD);
        }
    }

    private static void lost() {
        section("Promise 14");
        says("A dot is LOST, or no more: how many are LOST.");
        asIfNeverAsked("type(0, 65)", "lost(0, 3)", "lost(1, 8)", "lost(2, 9)", "lost(0, 3)", "lost(3, 0)");
        for (DotSquares x : new DotSquares[] {new DotSquares(), tooLong()}) {
            due(x, "lost(0, 0)", 1);
            due(x, "lost(14, 14)", 2);
            due(x, "turn(0, 0)", 1);
            due(x, "lost(0, 0)", 1);
            due(x, "lost(14, 14)", 0);
            due(x, "count(4)", 1);
            due(x, "count(6)", 5);
            says("BAD.");
            badDots(x, "lost");
            due(x, "count(5)", 0);
            due(x, "count(6)", 5);
        }
    }

    private static void back() {
        section("Promise 15");
        says("The last DAMAGE that is known is undone: how many are known still.");
        DotSquares x = typed("mid", 70);
        for (int i = 0; i < 61; i++) {
            go(x, "turn(" + i / 15 + ", " + i % 15 + ")");
        }
        due(x, "count(6)", 60);
        for (int known = 59; known >= 0; known--) {
            due(x, "back()", known);
            due(x, "count(4)", known + 1);
        }
        asIfNeverAsked("type(0, 65)", "lost(0, 3)", "turn(1, 8)", "turn(3, 0)", "turn(11, 0)", "back()", "back()",
                "back()", "back()");
        says("NOT: none is.");
        due(x, "back()", NOT);
        due(x, "count(4)", 1);
        due(x, "seen(0, 0)", 0);
        due(x, "lost(0, 0)", 1);
        due(x, "wipe(0)", 1);
        due(x, "back()", 0);
        due(x, "back()", NOT);
        due(x, "heal()", 1);
        due(x, "back()", NOT);
        due(new DotSquares(), "back()", NOT);
        due(tooLong(), "back()", NOT);
    }

    private static void heal() {
        section("Promise 16");
        says("All DAMAGE is gone, none is known: how many dots were TURNED or LOST.");
        asIfNeverAsked("type(0, 65)", "lost(0, 3)", "turn(1, 8)", "heal()", "turn(3, 0)", "turn(11, 0)", "heal()");
        DotSquares x = typed("low", 65);
        long whole = x.digest();
        due(x, "heal()", 0);
        go(x, "turn(2, 2)", "turn(2, 2)", "lost(3, 3)", "lost(3, 3)");
        due(x, "heal()", 0);
        due(x, "count(6)", 0);
        go(x, "turn(4, 4)", "lost(4, 4)", "turn(4, 5)", "lost(4, 6)");
        due(x, "heal()", 3);
        due(x, "heal()", 0);
        due(x, "back()", NOT);
        for (int what = 4; what <= 6; what++) {
            due(x, "count(" + what + ")", 0);
        }
        due(x, "digest()", whole);
        for (int i = 0; i < 75; i++) {
            go(x, "lost(" + i / 15 + ", " + i % 15 + ")");
        }
        due(x, "heal()", 75);
        due(x, "back()", NOT);
        due(x, "digest()", whole);
    }

    private static void seen() {
        section("Promise 17");
        says("What is SEEN of a dot: 0 light, 1 dark, 2 LOST.");
        DotSquares x = new DotSquares();
        due(x, "seen(1, 1)", 0);
        due(x, "seen(0, 0)", 1);
        go(x, "turn(1, 1)", "turn(0, 0)");
        due(x, "seen(1, 1)", 1);
        due(x, "seen(0, 0)", 0);
        go(x, "lost(1, 1)", "lost(0, 0)");
        due(x, "seen(1, 1)", 2);
        due(x, "seen(0, 0)", 2);
        says("BAD; NOT: there is no MARK.");
        badDots(x, "seen");
        DotSquares none = tooLong();
        badDots(none, "seen");
        due(none, "seen(0, 0)", NOT);
        due(none, "seen(14, 14)", NOT);
        go(none, "lost(14, 14)");
        due(none, "seen(14, 14)", NOT);
    }
}
