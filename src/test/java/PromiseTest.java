/** Each promise of the document by itself: ordinary inputs, the edges it names, wrong inputs. */
public final class PromiseTest extends Marks {
    private static final int[] OUTSIDE = {-1, LEAST, MOST};
    private static final Check CHECK = new Check();

    public static void main(String[] args) {
        newObject();
        type();
        wipe();
        undo();
        fault();
        read();
        field();
        mark();
        symbol();
        dots();
        penalty();
        place();
        turn();
        lost();
        back();
        heal();
        seen();
        why();
        told();
        format();
        block();
        mended();
        straw();
        sheet();
        lose();
        lay();
        get();
        copy();
        write();
        count();
        digest();
        CHECK.finish("PromiseTest");
    }

    private static void due(String call, long got, long want) {
        CHECK.due(call, got, want);
    }

    private static void newObject() {
        CHECK.part("1 new object");
        DotSquares used = typed("top", 7);
        used.turn(0, 0);
        used.lost(0, 1);
        used.sheet(0, 0, 3);
        used.lay(1, 0, 0, 0);
        DotSquares x = new DotSquares();
        for (int what : new int[] {0, 1, 2, 3, 4, 5, 6, 8}) {
            due("count(" + what + ")", x.count(what), 0);
        }
        due("fault()", x.fault(), NONE);
        due("told(-1)", x.told(-1), 0);
        due("back()", x.back(), NOT);
        due("heal()", x.heal(), 0);
        due("undo(0)", x.undo(0), NOT);
        due("undo(1)", x.undo(1), NOT);
        for (int s = 0; s < 4; s++) {
            due("lose(" + s + ")", x.lose(s), NULL);
        }
        due("NONE", DotSquares.NONE, -1);
        due("BAD", DotSquares.BAD, -2);
        due("NOT", DotSquares.NOT, -3);
        due("FULL", DotSquares.FULL, -4);
    }

    private static void type() {
        CHECK.part("2 type");
        DotSquares x = new DotSquares();
        due("type(0, 0)", x.type(0, 0), 1);
        due("type(0, 255)", x.type(0, 255), 2);
        due("told(0)", x.told(0), 0);
        due("told(1)", x.told(1), 255);
        for (int bad : OUTSIDE) {
            due("type(" + bad + ", 1)", x.type(bad, 1), BAD);
            due("type(0, " + bad + ")", x.type(0, bad), BAD);
        }
        due("type(2, 1)", x.type(2, 1), BAD);
        due("type(0, 256)", x.type(0, 256), BAD);
        for (int n = 3; n <= 14; n++) {
            due("type(0, 9)", x.type(0, 9), n);
        }
        due("type(0, 9) of 14", x.type(0, 9), FULL);
        due("type(0, 256) of 14", x.type(0, 256), BAD);
        due("count(0)", x.count(0), 14);
        due("type(1, m)", x.type(1, 'm'), 1);
        due("type(1, i)", x.type(1, 'i'), 2);
        due("type(1, d)", x.type(1, 'd'), 3);
        due("type(1, d) of 3", x.type(1, 'd'), FULL);
        due("mark(0)", x.mark(0), 1);
        due("told(13)", x.told(13), 9);
    }

    private static void wipe() {
        CHECK.part("3 wipe");
        DotSquares x = typed("mid", 1, 2, 3);
        due("wipe(0)", x.wipe(0), 3);
        due("wipe(0) again", x.wipe(0), 0);
        due("count(0)", x.count(0), 0);
        due("told(-1)", x.told(-1), 0);
        due("mark(0)", x.mark(0), 1);
        due("type(0, 8)", x.type(0, 8), 1);
        due("told(0)", x.told(0), 8);
        due("wipe(1)", x.wipe(1), 3);
        due("mark(0)", x.mark(0), 0);
        due("fault()", x.fault(), NONE);
        due("count(0)", x.count(0), 1);
        due("wipe(2)", x.wipe(2), BAD);
        for (int bad : OUTSIDE) {
            due("wipe(" + bad + ")", x.wipe(bad), BAD);
        }
        x.turn(1, 1);
        x.wipe(0);
        due("count(4): damage stays", x.count(4), 1);
    }

    private static void undo() {
        CHECK.part("4 undo");
        DotSquares x = typed("top", 1, 2);
        due("undo(0)", x.undo(0), 1);
        due("told(-1)", x.told(-1), 1);
        due("told(0)", x.told(0), 1);
        due("undo(1)", x.undo(1), 2);
        due("mark(0)", x.mark(0), 0);
        due("undo(0)", x.undo(0), 0);
        due("undo(0) of none", x.undo(0), NOT);
        due("undo(2)", x.undo(2), BAD);
        for (int bad : OUTSIDE) {
            due("undo(" + bad + ")", x.undo(bad), BAD);
        }
        due("undo(1)", x.undo(1), 1);
        due("undo(1)", x.undo(1), 0);
        due("undo(1) of none", x.undo(1), NOT);
    }

    private static void fault() {
        CHECK.part("5 fault");
        String[] names = {"", "low", "mid", "top", "l", "lo", "m", "mi", "t", "to", "x", "xow", "lx",
            "lxw", "lox", "mod", "mia", "tip", "tow", "LOW", "lmt", "ow", "" + (char) 0, "lo" + (char) 255};
        int[] faults = {-1, -1, -1, -1, 1, 2, 1, 2, 1, 2, 0, 0, 1, 1, 2, 1, 2, 1, 2, 0, 1, 0, 0, 2};
        for (int i = 0; i < names.length; i++) {
            DotSquares x = typed(names[i]);
            due("fault() of " + names[i], x.fault(), faults[i]);
            due("mark(0) of " + names[i], x.mark(0), i >= 1 && i <= 3 ? i - 1 : 0);
        }
    }

    private static void read() {
        CHECK.part("6 read");
        DotSquares x = typed("low", 5);
        due("read(4)", x.read(4), BAD);
        due("read(-1)", x.read(-1), BAD);
        due("count(8)", x.count(8), 0);
        due("read(0) of a lost one", x.read(0), NULL);
        due("count(8)", x.count(8), 1);
        for (int form = 0; form < 3; form++) {
            x.wipe(0);
            x.type(0, 5);
            x.sheet(form, form, 4);
            x.lay(form, form, 0, 127);
            x.lay(form, form, 2, -1);
            due("read(" + form + ")", x.read(form), 2);
            due("told(-1)", x.told(-1), 3);
            due("told(1)", x.told(1), 127);
            due("told(2)", x.told(2), 0);
        }
        x.sheet(3, 1, 60);
        x.lay(3, 1, 4, 255);
        due("read(3) to the end of the text", x.read(3), 11);
        due("told(7)", x.told(7), 255);
        due("read(3) of a full text", x.read(3), 0);
        due("count(0)", x.count(0), 14);
        x.wipe(0);
        x.lay(3, 1, 0, 256);
        due("read(3), 256 first", x.read(3), 0);
        x.sheet(3, 0, 1);
        x.lay(3, 0, 0, 200);
        due("read(3), a byte below 0", x.read(3), 0);
        x.sheet(3, 2, 0);
        due("read(3) of no items", x.read(3), 0);
    }

    private static void field() {
        CHECK.part("7 field");
        DotSquares x = new DotSquares();
        for (int a = 0; a < 16; a++) {
            due("field(a, 2, 0)", x.field(a, 2, 0), 2 * a >= 16 ? 2 * a ^ 19 : 2 * a);
            due("field(a, 0, 1)", x.field(a, 0, 1), NONE);
            int power = 1;
            for (int b = 0; b < 16; b++) {
                int product = x.field(a, b, 0);
                due("field(a, b, 0)", product, Naive.times(a, b));
                if (b != 0) {
                    due("field(a times b, b, 1)", x.field(product, b, 1), a);
                }
                due("field(a, b, 2)", x.field(a, b, 2), power);
                power = Naive.times(power, a);
            }
        }
        for (int bad : new int[] {-1, 16, LEAST, Integer.MAX_VALUE}) {
            due("field(bad, 1, 0)", x.field(bad, 1, 0), BAD);
            due("field(1, bad, 1)", x.field(1, bad, 1), BAD);
            due("field(1, 1, bad)", x.field(1, 1, bad), BAD);
        }
        due("field(16, 0, 1)", x.field(16, 0, 1), BAD);
        due("field(1, 1, 3)", x.field(1, 1, 3), BAD);
    }

    private static void mark() {
        CHECK.part("8 mark");
        String[] names = {"low", "mid", "top"};
        for (int level = 0; level < 3; level++) {
            DotSquares x = typed(names[level], 65);
            due("mark(0)", x.mark(0), level);
            due("mark(2)", x.mark(2), 12 - 2 * level);
            due("mark(3)", x.mark(3), 0);
            for (int n = 2; n <= 14; n++) {
                x.type(0, 65);
                boolean fits = level < 2 || n <= 11;
                due("mark(3) of " + n, x.mark(3), fits ? 0 : 1);
                CHECK.holds("mark(1) of " + n, x.mark(1) == NONE != fits);
                due("mark(0) of " + n, x.mark(0), level);
                due("mark(2) of " + n, x.mark(2), 12 - 2 * level);
            }
        }
        DotSquares x = new DotSquares();
        due("mark(4)", x.mark(4), BAD);
        for (int bad : OUTSIDE) {
            due("mark(" + bad + ")", x.mark(bad), BAD);
        }
        leastMask();
    }

    /** Of like penalties the least mask is taken; among so many texts there are such ones. */
    private static void leastMask() {
        int ties = 0;
        for (int b = 0; b < 256; b++) {
            for (String level : new String[] {"low", "mid", "top"}) {
                DotSquares x = typed(level, b, 255 - b, b * 7 & 255, b * 31 & 255, b * 77 & 255, b ^ 90);
                int best = 0;
                for (int mask = 1; mask < 4; mask++) {
                    if (x.penalty(mask) < x.penalty(best)) {
                        best = mask;
                    }
                    ties += x.penalty(mask) == x.penalty(best) && mask != best ? 1 : 0;
                }
                due("mark(1)", x.mark(1), best);
            }
        }
        CHECK.holds("some penalties are alike", ties > 0);
    }

    private static void symbol() {
        CHECK.part("9 symbol");
        String[] names = {"low", "mid", "top"};
        int[] bytes = {0x1F, 0xA0, 0x35, 0xC7, 0xFF, 0x08, 0x80, 0x5A, 0x99, 0xE1, 0x42};
        for (int level = 0; level < 3; level++) {
            DotSquares x = typed(names[level], bytes);
            int items = 12 - 2 * level;
            for (int i = 0; i < 3 * items; i++) {
                int b = i >= 1 && i <= 22 ? bytes[(i - 1) / 2] : 0;
                int want = i == 0 ? 11 : i % 2 == 1 ? b / 16 : b % 16;
                due("symbol(" + i % 3 + ", " + i / 3 + ")", x.symbol(i % 3, i / 3), want);
            }
            for (int block = 0; block < 3; block++) {
                for (int j = 0; j < 14 - items; j++) {
                    int sum = 0;
                    for (int p = 0; p < 14; p++) {
                        sum ^= Naive.times(x.symbol(block, p), Naive.power(j * (13 - p)));
                    }
                    due("sum " + j + " of block " + block, sum, 0);
                }
            }
        }
        due("symbol(0, 0) too long", tooLong().symbol(0, 0), NONE);
        due("symbol(3, 0) too long", tooLong().symbol(3, 0), BAD);
        DotSquares x = new DotSquares();
        due("symbol(3, 0)", x.symbol(3, 0), BAD);
        due("symbol(0, 14)", x.symbol(0, 14), BAD);
        for (int bad : OUTSIDE) {
            due("symbol(" + bad + ", 0)", x.symbol(bad, 0), BAD);
            due("symbol(0, " + bad + ")", x.symbol(0, bad), BAD);
        }
    }

    private static void dots() {
        CHECK.part("10 dots");
        DotSquares x = typed("top", 255, 255, 255, 255, 255, 255, 255, 255, 255, 255, 255);
        squaresOfTop(x);
        x.wipe(0);
        squaresOfTop(x);
        x.type(0, 200);
        squaresOfTop(x);
        due("dots(-2, 0)", x.dots(-2, 0), BAD);
        due("dots(4, 0)", x.dots(4, 0), BAD);
        due("dots(0, 15)", x.dots(0, 15), BAD);
        due("dots(-1, -1)", x.dots(-1, -1), BAD);
        due("dots(0, 0) too long", tooLong().dots(0, 0), NOT);
        due("dots(-1, 14) too long", tooLong().dots(-1, 14), NOT);
        due("dots(4, 0) too long", tooLong().dots(4, 0), BAD);
    }

    private static void squaresOfTop(DotSquares x) {
        for (int mask = -1; mask < 4; mask++) {
            int format = Integer.reverse(8 + Math.max(mask, 0)) >>> 28;
            for (int row = 0; row < 15; row++) {
                int line = x.dots(mask, row);
                if (row < 3) {
                    due("eyes", line & 0x7007, row == 1 ? 0x5005 : 0x7007);
                }
                if (row > 11) {
                    due("eye", line & 7, row == 13 ? 5 : 7);
                }
                if (row == 7) {
                    due("clock", line, 0x5555);
                }
                if (row == 3) {
                    due("format", line & 0x780F, format | format << 11);
                }
                if (row == 11) {
                    due("format", line & 0xF, format);
                }
                dotsOfRow(x, mask, row);
            }
        }
    }

    private static void dotsOfRow(DotSquares x, int mask, int row) {
        for (int c = 0; c < 15; c++) {
            int n = x.place(row, c, 0);
            if (n != NONE) {
                int symbol = n < 168 ? x.symbol(n / 4 % 3, n / 12) : 0;
                boolean turned = mask == 0 && (row + c) % 2 == 0 || mask == 1 && row % 2 == 0
                        || mask == 2 && c % 3 == 0 || mask == 3 && row % 2 == 0 && c % 2 == 0;
                due("free dot " + row + ", " + c, x.dots(mask, row) >> c & 1,
                        (symbol >> 3 - n % 4 & 1) ^ (turned ? 1 : 0));
            }
        }
    }

    private static void penalty() {
        CHECK.part("11 penalty");
        int[] bytes = {0, 0, 0, 0, 255, 255, 18, 52, 86, 120, 154};
        for (String level : new String[] {"low", "mid", "top"}) {
            DotSquares x = typed(level);
            for (int b : bytes) {
                for (int mask = 0; mask < 4; mask++) {
                    due("penalty(" + mask + ")", x.penalty(mask), penaltyOf(x, mask));
                }
                x.type(0, b);
            }
        }
        DotSquares x = new DotSquares();
        due("penalty(-1)", x.penalty(-1), BAD);
        due("penalty(4)", x.penalty(4), BAD);
        due("penalty(0) too long", tooLong().penalty(0), NOT);
        due("penalty(4) too long", tooLong().penalty(4), BAD);
    }

    private static int penaltyOf(DotSquares x, int mask) {
        int[] rows = new int[15];
        int dark = 0;
        int sum = 0;
        for (int r = 0; r < 15; r++) {
            rows[r] = x.dots(mask, r);
            dark += Integer.bitCount(rows[r]);
        }
        for (int r = 0; r < 15; r++) {
            for (int c = 0; c < 15; c++) {
                int here = rows[r] >> c & 1;
                int right = 0;
                while (c + right < 15 && (rows[r] >> c + right & 1) == here) {
                    right++;
                }
                int down = 0;
                while (r + down < 15 && (rows[r + down] >> c & 1) == here) {
                    down++;
                }
                boolean startsRow = c == 0 || (rows[r] >> c - 1 & 1) != here;
                boolean startsColumn = r == 0 || (rows[r - 1] >> c & 1) != here;
                sum += startsRow && right >= 5 ? right - 2 : 0;
                sum += startsColumn && down >= 5 ? down - 2 : 0;
                sum += right >= 2 && down >= 2 && (rows[r + 1] >> c + 1 & 1) == here ? 3 : 0;
            }
        }
        return sum + (dark > 112 ? dark - 112 : 112 - dark) / 5;
    }

    private static void place() {
        CHECK.part("12 place");
        DotSquares x = tooLong();
        int next = 0;
        for (int r = 0; r < 15; r++) {
            for (int i = 0; i < 15; i++) {
                int c = r % 2 == 0 ? i : 14 - i;
                boolean eye = r < 3 && (c < 3 || c > 11) || r > 11 && c < 3;
                boolean format = r == 3 && (c < 4 || c > 10) || r == 11 && c < 4;
                boolean free = !eye && !format && r != 7;
                due("place(" + r + ", " + c + ", 0)", x.place(r, c, 0), free ? next : NONE);
                due("place(" + r + ", " + c + ", 1)", x.place(r, c, 1),
                        free && next < 168 ? next / 4 : NONE);
                next += free ? 1 : 0;
            }
        }
        due("free dots", next, 171);
        due("place(0, 0, 2)", x.place(0, 0, 2), BAD);
        due("place(0, 0, -1)", x.place(0, 0, -1), BAD);
        due("place(15, 0, 0)", x.place(15, 0, 0), BAD);
        due("place(0, 15, 0)", x.place(0, 15, 0), BAD);
        for (int bad : OUTSIDE) {
            due("place(" + bad + ", 0, 0)", x.place(bad, 0, 0), BAD);
            due("place(0, " + bad + ", 0)", x.place(0, bad, 0), BAD);
        }
    }

    private static void turn() {
        CHECK.part("13 turn");
        DotSquares x = new DotSquares();
        int before = x.seen(4, 5);
        due("turn(4, 5)", x.turn(4, 5), 1);
        due("seen(4, 5)", x.seen(4, 5), 1 - before);
        due("turn(0, 0)", x.turn(0, 0), 2);
        due("seen(0, 0)", x.seen(0, 0), 0);
        due("lost(0, 0)", x.lost(0, 0), 1);
        due("turn(14, 14)", x.turn(14, 14), 3);
        due("turn(4, 5) back", x.turn(4, 5), 2);
        due("seen(4, 5)", x.seen(4, 5), before);
        due("turn(0, 0) back, lost", x.turn(0, 0), 1);
        due("turn(15, 0)", x.turn(15, 0), BAD);
        due("turn(0, 15)", x.turn(0, 15), BAD);
        for (int bad : OUTSIDE) {
            due("turn(" + bad + ", 0)", x.turn(bad, 0), BAD);
            due("turn(0, " + bad + ")", x.turn(0, bad), BAD);
        }
        due("count(4)", x.count(4), 1);
        due("count(6)", x.count(6), 6);
        due("turn(0, 0) without a mark", tooLong().turn(0, 0), 1);
    }

    private static void lost() {
        CHECK.part("14 lost");
        DotSquares x = new DotSquares();
        due("lost(7, 0)", x.lost(7, 0), 1);
        due("lost(7, 1)", x.lost(7, 1), 2);
        due("seen(7, 0)", x.seen(7, 0), 2);
        due("lost(7, 0) no more", x.lost(7, 0), 1);
        due("seen(7, 0)", x.seen(7, 0), 1);
        due("turn(7, 1)", x.turn(7, 1), 1);
        due("seen(7, 1)", x.seen(7, 1), 2);
        due("lost(7, 1) no more", x.lost(7, 1), 0);
        due("seen(7, 1) turned still", x.seen(7, 1), 1);
        due("lost(15, 0)", x.lost(15, 0), BAD);
        due("lost(0, 15)", x.lost(0, 15), BAD);
        for (int bad : OUTSIDE) {
            due("lost(" + bad + ", 0)", x.lost(bad, 0), BAD);
            due("lost(0, " + bad + ")", x.lost(0, bad), BAD);
        }
        due("count(6)", x.count(6), 5);
        due("lost(0, 0) without a mark", tooLong().lost(0, 0), 1);
    }

    private static void back() {
        CHECK.part("15 back");
        DotSquares x = new DotSquares();
        due("back() of none", x.back(), NOT);
        x.turn(1, 2);
        x.lost(1, 2);
        x.turn(1, 2);
        due("back()", x.back(), 2);
        due("count(4)", x.count(4), 1);
        due("back()", x.back(), 1);
        due("count(5)", x.count(5), 0);
        due("back()", x.back(), 0);
        due("count(4)", x.count(4), 0);
        due("back() of none", x.back(), NOT);
        for (int i = 0; i < 75; i++) {
            x.turn(i / 15, i % 15);
            due("count(6)", x.count(6), Math.min(i + 1, 60));
        }
        for (int i = 59; i >= 0; i--) {
            due("back()", x.back(), i);
            due("count(4)", x.count(4), 15 + i);
        }
        due("back(), 15 not known", x.back(), NOT);
        due("count(4)", x.count(4), 15);
        x.lost(14, 14);
        due("back()", x.back(), 0);
        due("count(5)", x.count(5), 0);
    }

    private static void heal() {
        CHECK.part("16 heal");
        DotSquares x = typed("mid", 65, 66);
        x.turn(0, 0);
        x.turn(3, 3);
        x.lost(3, 3);
        x.lost(9, 9);
        x.turn(5, 5);
        x.turn(5, 5);
        due("heal()", x.heal(), 3);
        due("count(4)", x.count(4), 0);
        due("count(5)", x.count(5), 0);
        due("count(6)", x.count(6), 0);
        due("back()", x.back(), NOT);
        due("seen(9, 9)", x.seen(9, 9), x.dots(x.mark(1), 9) >> 9 & 1);
        due("heal()", x.heal(), 0);
        due("told(-1)", x.told(-1), 2);
    }

    private static void seen() {
        CHECK.part("17 seen");
        DotSquares x = typed("top", 9, 8, 7);
        for (int r = 0; r < 15; r++) {
            for (int c = 0; c < 15; c++) {
                due("seen(" + r + ", " + c + ")", x.seen(r, c), x.dots(x.mark(1), r) >> c & 1);
            }
        }
        due("seen(15, 0)", x.seen(15, 0), BAD);
        due("seen(0, 15)", x.seen(0, 15), BAD);
        due("seen(-1, 0)", x.seen(-1, 0), BAD);
        due("seen(0, -1)", x.seen(0, -1), BAD);
        due("seen(0, 0) too long", tooLong().seen(0, 0), NOT);
        due("seen(0, 15) too long", tooLong().seen(0, 15), BAD);
    }

    private static void why() {
        CHECK.part("18 why");
        due("why() too long", tooLong().why(), 4);
        for (int level = 0; level < 3; level++) {
            String name = new String[] {"low", "mid", "top"}[level];
            for (int bytes = 0; bytes < 16; bytes++) {
                DotSquares x = typed(name);
                forge(x, level, bytes);
                boolean room = bytes <= new int[] {14, 14, 11}[level];
                due("why() of " + bytes + " at " + name, x.why(), room ? 0 : 3);
                due("told(-1) of " + bytes + " at " + name, x.told(-1), room ? bytes : NOT);
                due("block(0, 1)", x.block(0, 1), 0);
                due("straw(0) where it is wrong", room ? NONE : x.straw(0), NONE);
            }
        }
        DotSquares x = typed("low", 65);
        loseSymbol(x, 1, 3);
        loseSymbol(x, 1, 4);
        due("why(), as many gone as checks", x.why(), 0);
        loseSymbol(x, 1, 5);
        due("why(), one more gone", x.why(), 2);
        x.lost(3, 1);
        x.lost(3, 12);
        x.lost(11, 1);
        due("why(), format not known", x.why(), 1);
        x.heal();
        due("why() healed", x.why(), 0);
    }

    private static void told() {
        CHECK.part("19 told");
        int[] bytes = {0, 255, 128, 127, 1, 16, 15, 240, 77, 200, 3, 99, 42, 254};
        DotSquares x = typed("mid", bytes);
        for (int b = 0; b < 3; b++) {
            spoil(x, b, 2 * b, 5 + b);
            spoil(x, b, 11, 15 - b);
        }
        due("told(-1)", x.told(-1), 14);
        for (int i = 0; i < 14; i++) {
            due("told(" + i + ")", x.told(i), bytes[i]);
        }
        due("told(14)", x.told(14), BAD);
        due("told(-2)", x.told(-2), BAD);
        for (int p = 5; p < 10; p++) {
            loseSymbol(x, 2, p);
        }
        due("told(0) beyond", x.told(0), NOT);
        due("told(-1) beyond", x.told(-1), NOT);
        due("told(14) beyond", x.told(14), BAD);
        x = typed("low", 5, 6);
        due("told(1)", x.told(1), 6);
        due("told(2)", x.told(2), NONE);
        due("told(13)", x.told(13), NONE);
    }

    private static void format() {
        CHECK.part("20 format");
        DotSquares x = typed("mid", 65, 66, 67);
        due("format(0)", x.format(0), 1);
        due("format(1)", x.format(1), x.mark(1));
        for (int i = 0; i < 4; i++) {
            x.turn(i < 2 ? 3 : 11, i);
            due("format(0), one of three turned", x.format(0), 1);
            due("format(1), one of three turned", x.format(1), x.mark(1));
        }
        x.heal();
        x.lost(3, 2);
        x.lost(3, 13);
        due("format(0), one of three left", x.format(0), 1);
        x.lost(11, 2);
        due("format(0), none left", x.format(0), NONE);
        due("format(1), none left", x.format(1), NONE);
        x.lost(3, 2);
        x.lost(3, 13);
        due("format(1), two left", x.format(1), x.mark(1));
        x.turn(3, 2);
        due("format(1), as many", x.format(1), NONE);
        x.heal();
        x.turn(3, 0);
        x.turn(11, 0);
        due("format(0), level 3", x.format(0), NONE);
        due("why(), level 3", x.why(), 1);
        x.turn(3, 1);
        x.turn(11, 1);
        due("format(0), another level", x.format(0), 2);
        x.turn(3, 3);
        x.turn(3, 14);
        due("format(1), another mask", x.format(1), x.mark(1) ^ 1);
        due("format(2)", x.format(2), BAD);
        due("format(-1)", x.format(-1), BAD);
        due("format(0) too long", tooLong().format(0), NONE);
        due("format(2) too long", tooLong().format(2), BAD);
    }

    private static void block() {
        CHECK.part("21 block");
        String[] names = {"low", "mid", "top"};
        for (int level = 0; level < 3; level++) {
            int checks = 2 + 2 * level;
            for (int gone = 0; gone <= checks + 1; gone++) {
                for (int wrong = 0; gone + 2 * wrong <= checks; wrong++) {
                    DotSquares x = typed(names[level], 17, 34, 51, 68);
                    for (int g = 0; g < gone; g++) {
                        loseSymbol(x, 1, 13 - g);
                    }
                    for (int w = 0; w < wrong; w++) {
                        spoil(x, 1, 2 * w, 9 + w);
                    }
                    due("block(1, 0)", x.block(1, 0), gone);
                    due("block(1, 1)", x.block(1, 1), wrong);
                    due("block(1, 2)", x.block(1, 2), checks - gone - 2 * wrong);
                    due("block(0, 2)", x.block(0, 2), checks);
                    due("block(2, 0)", x.block(2, 0), 0);
                    due("why()", x.why(), 0);
                    due("told(3)", x.told(3), 68);
                }
            }
            DotSquares x = typed(names[level], 17, 34, 51, 68);
            for (int g = 0; g <= checks; g++) {
                loseSymbol(x, 2, g);
            }
            due("block(2, 0), too many gone", x.block(2, 0), checks + 1);
            due("block(2, 1), too many gone", x.block(2, 1), NONE);
            due("block(2, 2), too many gone", x.block(2, 2), NONE);
            due("block(1, 1)", x.block(1, 1), 0);
        }
        DotSquares x = new DotSquares();
        due("block(3, 0)", x.block(3, 0), BAD);
        due("block(-1, 0)", x.block(-1, 0), BAD);
        due("block(0, 3)", x.block(0, 3), BAD);
        due("block(0, -1)", x.block(0, -1), BAD);
        due("block(0, 0) too long", tooLong().block(0, 0), NOT);
        due("block(0, 3) too long", tooLong().block(0, 3), BAD);
        x.turn(3, 0);
        x.lost(11, 0);
        due("block(0, 0), no format", x.block(0, 0), NOT);
        x.heal();
        int[] last = dotOf(2, 13, 3);
        x.lost(14, 14);
        x.lost(14, 13);
        x.lost(14, 12);
        due("block(2, 0), last three dots lost", x.block(2, 0), 0);
        x.lost(last[0], last[1]);
        due("block(2, 0), the one ahead of them lost", x.block(2, 0), 1);
    }

    private static void mended() {
        CHECK.part("22 mended");
        DotSquares x = typed("top", 250, 131, 7, 96, 12);
        for (int b = 0; b < 3; b++) {
            loseSymbol(x, b, 0);
            loseSymbol(x, b, 13);
            spoil(x, b, 5, 15);
            spoil(x, b, 9 + b, 1);
            for (int p = 0; p < 14; p++) {
                due("mended(" + b + ", " + p + ")", x.mended(b, p), x.symbol(b, p));
            }
        }
        spoil(x, 1, 2, 3);
        due("mended(1, 0) beyond", x.mended(1, 0), NONE);
        due("mended(1, 7) beyond", x.mended(1, 7), NONE);
        due("mended(2, 5)", x.mended(2, 5), x.symbol(2, 5));
        due("mended(3, 0)", x.mended(3, 0), BAD);
        due("mended(-1, 0)", x.mended(-1, 0), BAD);
        due("mended(0, 14)", x.mended(0, 14), BAD);
        due("mended(0, -1)", x.mended(0, -1), BAD);
        due("mended(0, 0) too long", tooLong().mended(0, 0), NOT);
        due("mended(0, 14) too long", tooLong().mended(0, 14), BAD);
        x.lost(3, 3);
        x.turn(3, 14);
        due("mended(0, 0), no format", x.mended(0, 0), NOT);
        x = new DotSquares();
        forge(x, 0, 6);
        due("mended(0, 0) of another block that is whole", x.mended(0, 0), 6);
    }

    private static void straw() {
        CHECK.part("23 straw");
        DotSquares x = typed("low", 65);
        due("straw(0), no damage", x.straw(0), NONE);
        due("straw(1), no damage", x.straw(1), NONE);
        x.turn(0, 3);
        due("straw(0)", x.straw(0), 1);
        due("straw(1)", x.straw(1), 5);
        x.lost(1, 5);
        due("straw(0), not 0", x.straw(0), NONE);
        x.heal();
        x.lost(3, 0);
        x.turn(3, 1);
        due("straw(0), at a format's dot", x.straw(0), 3);
        due("straw(1), at a format's dot", x.straw(1), 11);
        x.lost(3, 11);
        due("straw(0), a lost one is none", x.straw(0), 3);
        due("straw(1), a lost one is none", x.straw(1), 12);
        strawIsFirst();
        due("straw(2)", x.straw(2), BAD);
        due("straw(-1)", x.straw(-1), BAD);
        due("straw(0) too long", tooLong().straw(0), NONE);
        due("straw(2) too long", tooLong().straw(2), BAD);
    }

    /** The straw against trying each dot by turn and why. */
    private static void strawIsFirst() {
        int many = 0;
        for (int i = 0; i < 60; i++) {
            DotSquares x = typed(new String[] {"low", "mid", "top"}[i % 3], i, 7 * i, 255 - i);
            for (int d = 0; d < 1 + i % 7; d++) {
                x.turn((i * 5 + d * 4) % 15, (i * 3 + d * 7) % 15);
                x.lost((i * 7 + d * 3) % 15, (i + d * 11) % 15);
            }
            int first = NONE;
            for (int at = 0; at < 225 && first == NONE && x.why() == 0; at++) {
                if (x.seen(at / 15, at % 15) != 2) {
                    x.turn(at / 15, at % 15);
                    first = x.why() == 0 ? NONE : at;
                    x.back();
                }
            }
            many += first == NONE ? 0 : 1;
            due("straw(0) of " + i, x.straw(0), first == NONE ? NONE : first / 15);
            due("straw(1) of " + i, x.straw(1), first == NONE ? NONE : first % 15);
        }
        CHECK.holds("some have a straw", many > 5);
    }

    private static void sheet() {
        CHECK.part("24 sheet");
        DotSquares x = new DotSquares();
        due("sheet(0, 0, 60)", x.sheet(0, 0, 60), 60);
        due("sheet(3, 2, 0)", x.sheet(3, 2, 0), 0);
        x.lay(0, 0, 59, 5);
        due("sheet(0, 0, 61)", x.sheet(0, 0, 61), BAD);
        due("sheet(4, 0, 1)", x.sheet(4, 0, 1), BAD);
        due("sheet(-1, 0, 1)", x.sheet(-1, 0, 1), BAD);
        due("sheet(0, 3, 1)", x.sheet(0, 3, 1), BAD);
        due("sheet(0, -1, 1)", x.sheet(0, -1, 1), BAD);
        due("sheet(4, 0, -1)", x.sheet(4, 0, -1), BAD);
        due("sheet(0, 3, -1)", x.sheet(0, 3, -1), BAD);
        due("count(8)", x.count(8), 0);
        due("sheet(0, 0, -1)", x.sheet(0, 0, -1), SIZE);
        due("sheet(0, 0, LEAST)", x.sheet(0, 0, LEAST), SIZE);
        due("count(8)", x.count(8), 5);
        due("get(0, 0, 59) as it was", x.get(0, 0, 59), 5);
        for (int i = 0; i < 60; i++) {
            x.lay(0, 0, i, 7);
        }
        due("sheet(0, 1, 60) anew", x.sheet(0, 1, 60), 60);
        for (int i = 0; i < 60; i++) {
            due("get(0, 1, " + i + ")", x.get(0, 1, i), 0);
        }
        due("get(3, 2, 0) of no items", x.get(3, 2, 0), LEAST);
        due("count(8)", x.count(8), 2);
    }

    private static void lose() {
        CHECK.part("25 lose");
        DotSquares x = new DotSquares();
        due("lose(0)", x.lose(0), NULL);
        due("count(8)", x.count(8), 1);
        x.sheet(0, 1, 17);
        due("lose(0)", x.lose(0), 17);
        due("lose(0) again", x.lose(0), NULL);
        due("get(0, 1, 0)", x.get(0, 1, 0), LEAST);
        x.sheet(0, 2, 0);
        due("lose(0) of no items", x.lose(0), 0);
        due("lose(4)", x.lose(4), BAD);
        due("lose(-1)", x.lose(-1), BAD);
    }

    private static void lay() {
        CHECK.part("26 lay");
        DotSquares x = new DotSquares();
        int[] numbers = {0, 1, 127, 128, 200, 255, 256, -1, -129, 32768, 65535, 70000, LEAST, 123456789};
        for (int form = 0; form < 3; form++) {
            x.sheet(form, form, 5);
            for (int v : numbers) {
                due("lay(" + form + ", " + form + ", 4, " + v + ")", x.lay(form, form, 4, v), 1);
                int want = form == 0 ? (byte) v : form == 1 ? (short) v : v;
                due("get", x.get(form, form, 4), want);
                due("get of another item", x.get(form, form, 3), 0);
            }
        }
        due("count(8)", x.count(8), 0);
        due("lay(4, 0, 0, 1)", x.lay(4, 0, 0, 1), BAD);
        due("lay(0, 3, 0, 1)", x.lay(0, 3, 0, 1), BAD);
        due("lay(-1, 0, 0, 1)", x.lay(-1, 0, 0, 1), BAD);
        due("lay(3, -1, 0, 1)", x.lay(3, -1, 0, 1), BAD);
        due("count(8)", x.count(8), 0);
        due("lay(3, 0, -1, 1)", x.lay(3, 0, -1, 1), NULL);
        due("lay(0, 1, 5, 1)", x.lay(0, 1, 5, 1), CAST);
        due("count(8)", x.count(8), 3);
        due("lay(0, 0, 5, 1)", x.lay(0, 0, 5, 1), INDEX);
        due("lay(0, 0, -1, 1)", x.lay(0, 0, -1, 1), INDEX);
        due("lay(0, 0, LEAST, 1)", x.lay(0, 0, LEAST, 1), INDEX);
        due("count(8)", x.count(8), 2);
    }

    private static void get() {
        CHECK.part("27 get");
        DotSquares x = new DotSquares();
        x.sheet(2, 1, 3);
        x.lay(2, 1, 2, -7);
        due("get(2, 1, 2)", x.get(2, 1, 2), -7);
        due("get(2, 1, 0)", x.get(2, 1, 0), 0);
        due("get(4, 1, 0)", x.get(4, 1, 0), LEAST);
        due("get(2, 3, 0)", x.get(2, 3, 0), LEAST);
        due("get(-1, 1, 0)", x.get(-1, 1, 0), LEAST);
        due("get(2, -1, 0)", x.get(2, -1, 0), LEAST);
        due("count(8)", x.count(8), 0);
        due("get(2, 1, 3)", x.get(2, 1, 3), LEAST);
        due("count(8)", x.count(8), 2);
        due("get(2, 0, 3)", x.get(2, 0, 3), LEAST);
        due("count(8)", x.count(8), 3);
        due("get(1, 0, 3)", x.get(1, 0, 3), LEAST);
        due("count(8)", x.count(8), 1);
        due("get(2, 1, -1)", x.get(2, 1, -1), LEAST);
        due("count(8)", x.count(8), 2);
    }

    private static void copy() {
        CHECK.part("28 copy");
        DotSquares x = new DotSquares();
        x.sheet(0, 2, 6);
        x.sheet(1, 2, 4);
        x.sheet(2, 1, 4);
        for (int i = 0; i < 6; i++) {
            x.lay(0, 2, i, 10 + i);
        }
        due("copy(0, 2, 1, 0, 4)", x.copy(0, 2, 1, 0, 4), 1);
        dueItems(x, 1, 12, 13, 14, 15);
        due("copy(0, 0, 0, 1, 5)", x.copy(0, 0, 0, 1, 5), 1);
        dueItems(x, 0, 10, 10, 11, 12, 13, 14);
        due("copy(0, 2, 0, 0, 4)", x.copy(0, 2, 0, 0, 4), 1);
        dueItems(x, 0, 11, 12, 13, 14, 13, 14);
        due("copy(0, 6, 1, 4, 0)", x.copy(0, 6, 1, 4, 0), 1);
        due("copy(4, 0, 0, 0, 0)", x.copy(4, 0, 0, 0, 0), BAD);
        due("copy(3, 0, 4, 0, 0)", x.copy(3, 0, 4, 0, 0), BAD);
        due("copy(-1, 0, 0, 0, 0)", x.copy(-1, 0, 0, 0, 0), BAD);
        due("copy(0, 0, -1, 0, 0)", x.copy(0, 0, -1, 0, 0), BAD);
        due("count(8)", x.count(8), 0);
        due("copy(3, 0, 0, 0, 1)", x.copy(3, 0, 0, 0, 1), NULL);
        due("copy(0, -1, 3, 0, 1)", x.copy(0, -1, 3, 0, 1), NULL);
        due("copy(0, -1, 2, 0, 1)", x.copy(0, -1, 2, 0, 1), STORE);
        due("count(8)", x.count(8), 4);
        int[][] outside = {{-1, 0, 1}, {0, -1, 1}, {0, 0, -1}, {0, 0, 5}, {3, 0, 4}, {0, 1, 4},
            {7, 0, 0}, {0, 5, 0}, {Integer.MAX_VALUE, 0, 1}, {1, 1, Integer.MAX_VALUE},
            {0, Integer.MAX_VALUE, Integer.MAX_VALUE}, {LEAST, 0, LEAST}};
        for (int[] o : outside) {
            due("copy(0, " + o[0] + ", 1, " + o[1] + ", " + o[2] + ")", x.copy(0, o[0], 1, o[1], o[2]), INDEX);
        }
        due("count(8)", x.count(8), 2);
        dueItems(x, 0, 11, 12, 13, 14, 13, 14);
        dueItems(x, 1, 12, 13, 14, 15);
    }

    private static void dueItems(DotSquares x, int s, int... want) {
        for (int i = 0; i < want.length; i++) {
            due("get(" + s + ", 2, " + i + ")", x.get(s, 2, i), want[i]);
        }
    }

    private static void write() {
        CHECK.part("29 write");
        DotSquares x = typed("mid", 65, 66);
        x.turn(4, 4);
        x.lost(4, 6);
        for (int form = 0; form < 3; form++) {
            for (int n : new int[] {0, 1, 14, 15, 16, 60}) {
                x.sheet(form, form, n);
                for (int i = 0; i < n; i++) {
                    x.lay(form, form, i, 9);
                }
                due("write(4, " + form + ")", x.write(4, form), Math.min(n, 15));
                for (int i = 0; i < n; i++) {
                    due("item " + i, x.get(form, form, i), i < 15 ? x.seen(4, i) : 9);
                }
            }
        }
        due("write(15, 0)", x.write(15, 0), BAD);
        due("write(-1, 0)", x.write(-1, 0), BAD);
        due("write(0, 4)", x.write(0, 4), BAD);
        due("write(0, -1)", x.write(0, -1), BAD);
        due("count(8)", x.count(8), 0);
        due("write(0, 3)", x.write(0, 3), NULL);
        due("count(8)", x.count(8), 1);
        x = tooLong();
        due("write(0, 0), lost and too long", x.write(0, 0), NULL);
        x.sheet(0, 0, 2);
        due("write(0, 0) too long", x.write(0, 0), NOT);
    }

    private static void count() {
        CHECK.part("30 count");
        DotSquares x = typed("mid", 65, 66);
        x.turn(4, 4);
        x.turn(4, 5);
        x.lost(4, 6);
        int dark = 0;
        for (int row = 0; row < 15; row++) {
            dark += Integer.bitCount(x.dots(x.mark(1), row));
        }
        int[] want = {2, 1, x.mark(1), 0, 2, 1, 3, dark, 0};
        for (int what = 0; what < 9; what++) {
            due("count(" + what + ")", x.count(what), want[what]);
        }
        due("count(3) first", tooLong().count(3), 4);
        x = tooLong();
        want = new int[] {12, 2, NONE, 4, 0, 0, 0, 0, 0};
        for (int what = 0; what < 9; what++) {
            due("count(" + what + ") too long", x.count(what), want[what]);
        }
        x.lose(0);
        due("count(8)", x.count(8), 1);
        x.sheet(0, 0, 1);
        due("count(8) stays", x.count(8), 1);
        due("count(9)", x.count(9), BAD);
        for (int bad : OUTSIDE) {
            due("count(" + bad + ")", x.count(bad), BAD);
        }
    }

    private static void digest() {
        CHECK.part("31 digest");
        DotSquares x = typed("top", 65, 200);
        due("digest()", x.digest(), digestOf(x));
        x.turn(4, 4);
        due("digest(), one turned", x.digest(), digestOf(x));
        x.lost(3, 0);
        x.turn(3, 11);
        due("digest(), no format", x.digest(), digestOf(x));
        x = tooLong();
        due("digest() too long", x.digest(), digestOf(x));
        long before = x.digest();
        x.lose(0);
        due("digest() is without count() 8", x.digest(), before);
    }

    private static long digestOf(DotSquares x) {
        long h = 17;
        for (int i = 0; i <= 7; i++) {
            h = 31 * h + x.count(i);
        }
        h = 31 * h + x.fault();
        for (int i = 0; i <= 3; i++) {
            h = 31 * h + x.mark(i);
        }
        for (int b = 0; b <= 2; b++) {
            for (int p = 0; p <= 13; p++) {
                h = 31 * h + x.symbol(b, p);
                h = 31 * h + x.mended(b, p);
            }
            for (int i = 0; i <= 2; i++) {
                h = 31 * h + x.block(b, i);
            }
        }
        for (int mask = -1; mask <= 3; mask++) {
            for (int row = 0; row <= 14; row++) {
                h = 31 * h + x.dots(mask, row);
            }
        }
        for (int mask = 0; mask <= 3; mask++) {
            h = 31 * h + x.penalty(mask);
        }
        for (int at = 0; at < 225; at++) {
            h = 31 * h + x.seen(at / 15, at % 15);
        }
        h = 31 * h + x.why();
        for (int i = -1; i <= 13; i++) {
            h = 31 * h + x.told(i);
        }
        h = 31 * (31 * h + x.format(0)) + x.format(1);
        return 31 * (31 * h + x.straw(0)) + x.straw(1);
    }
}
