import java.util.Random;

/** Long runs of calls, the same on the class and on Naive: every answer must be the same. */
public final class ModelTest {
    private static final int RUNS = 120;
    private static final int CALLS = 512;
    private static final String[] NAMES = {"low", "mid", "top", "lop", "m", "to", "xow", "midd"};

    private final Check check = new Check();
    private final Random random;
    private DotSquares x;
    private Naive y;
    /** How often a run asks for damage, and for other than right arguments; in percent. */
    private int roughness;
    private int wrongness;

    private ModelTest(long seed) {
        random = new Random(seed);
    }

    public static void main(String[] args) {
        ModelTest test = new ModelTest(args.length > 0 ? Long.parseLong(args[0]) : 20261118);
        int runs = args.length > 1 ? Integer.parseInt(args[1]) : RUNS;
        for (int run = 0; run < runs && test.check.wrong() == 0; run++) {
            test.run(run);
        }
        test.check.finish("ModelTest");
    }

    private void run(int run) {
        x = new DotSquares();
        y = new Naive();
        roughness = new int[] {5, 15, 30}[run % 3];
        wrongness = new int[] {1, 5, 20}[run / 3 % 3];
        check.part("run " + run);
        int calls = 0;
        while (calls < CALLS - 40) {
            calls += step();
        }
        digest();
    }

    private int step() {
        int kind = random.nextInt(100);
        if (kind < 4) {
            return retype();
        }
        if (kind < 10) {
            return textCall();
        }
        if (kind < 10 + roughness) {
            return damageCall();
        }
        if (kind < 52) {
            return readingCall();
        }
        if (kind < 70) {
            return markCall();
        }
        if (kind < 97) {
            return sheetCall();
        }
        return random.nextInt(100) < 40 ? digest() : damageCall();
    }

    /** A number from 0 to below the bound; now and then another one. */
    private int upTo(int bound) {
        if (random.nextInt(100) >= wrongness) {
            return random.nextInt(bound);
        }
        int[] others = {-1, -2, bound, bound + 1, Integer.MIN_VALUE, Integer.MAX_VALUE, -bound};
        return others[random.nextInt(others.length)];
    }

    private int retype() {
        int calls = 2;
        check.due("wipe(0)", x.wipe(0), y.wipe(0));
        check.due("wipe(1)", x.wipe(1), y.wipe(1));
        for (char c : NAMES[random.nextInt(NAMES.length)].toCharArray()) {
            check.due("type(1, " + (int) c + ")", x.type(1, c), y.type(1, c));
            calls++;
        }
        int bytes = random.nextInt(16);
        for (int i = 0; i < bytes; i++) {
            int b = random.nextInt(256);
            check.due("type(0, " + b + ")", x.type(0, b), y.type(0, b));
            calls++;
        }
        return calls;
    }

    private int textCall() {
        int which = upTo(2);
        switch (random.nextInt(6)) {
            case 0: check.due("undo(" + which + ")", x.undo(which), y.undo(which)); break;
            case 1: check.due("fault()", x.fault(), y.fault()); break;
            case 2:
                int a = upTo(16);
                int c = upTo(16);
                int what = upTo(3);
                check.due("field(" + a + ", " + c + ", " + what + ")",
                        x.field(a, c, what), y.field(a, c, what));
                break;
            case 3:
                int s = upTo(4);
                check.due("read(" + s + ")", x.read(s), y.read(s));
                break;
            default:
                int b = upTo(256);
                check.due("type(" + which + ", " + b + ")", x.type(which, b), y.type(which, b));
        }
        return 1;
    }

    private int damageCall() {
        int row = upTo(15);
        int column = upTo(15);
        if (random.nextInt(8) == 0) {
            row = random.nextInt(3) == 0 ? 11 : 3;
            column = random.nextInt(4) + (row == 3 && random.nextBoolean() ? 11 : 0);
        }
        String dot = "(" + row + ", " + column + ")";
        int kind = random.nextInt(100);
        if (kind < 45) {
            check.due("turn" + dot, x.turn(row, column), y.turn(row, column));
        } else if (kind < 75) {
            check.due("lost" + dot, x.lost(row, column), y.lost(row, column));
        } else if (kind < 95) {
            check.due("back()", x.back(), y.back());
        } else {
            check.due("heal()", x.heal(), y.heal());
        }
        return 1;
    }

    private int readingCall() {
        int block = upTo(3);
        int p = upTo(14);
        int what = upTo(3);
        int row = upTo(15);
        int column = upTo(15);
        String at = "(" + block + ", " + p + ")";
        switch (random.nextInt(8)) {
            case 0: check.due("why()", x.why(), y.why()); break;
            case 1: check.due("told(" + p + ")", x.told(p), y.told(p)); break;
            case 2: check.due("told(-1)", x.told(-1), y.told(-1)); break;
            case 3: check.due("format(" + what + ")", x.format(what), y.format(what)); break;
            case 4:
                check.due("block(" + block + ", " + what + ")",
                        x.block(block, what), y.block(block, what));
                break;
            case 5: check.due("mended" + at, x.mended(block, p), y.mended(block, p)); break;
            case 6:
                check.due("seen(" + row + ", " + column + ")",
                        x.seen(row, column), y.seen(row, column));
                break;
            default:
                if (random.nextInt(3) == 0) {
                    check.due("straw(" + what + ")", x.straw(what), y.straw(what));
                }
        }
        return 1;
    }

    private int markCall() {
        int row = upTo(15);
        int column = upTo(15);
        int mask = upTo(5) - 1;
        int block = upTo(3);
        int what = upTo(4);
        int p = upTo(14);
        switch (random.nextInt(6)) {
            case 0: check.due("mark(" + what + ")", x.mark(what), y.mark(what)); break;
            case 1:
                check.due("symbol(" + block + ", " + p + ")", x.symbol(block, p), y.symbol(block, p));
                break;
            case 2: check.due("dots(" + mask + ", " + row + ")", x.dots(mask, row), y.dots(mask, row)); break;
            case 3: check.due("penalty(" + mask + ")", x.penalty(mask), y.penalty(mask)); break;
            case 4:
                check.due("place(" + row + ", " + column + ", " + what + ")",
                        x.place(row, column, what), y.place(row, column, what));
                break;
            default:
                int number = upTo(9);
                check.due("count(" + number + ")", x.count(number), y.count(number));
        }
        return 1;
    }

    private int sheetCall() {
        int s = upTo(4);
        int form = upTo(3);
        int i = random.nextInt(4) == 0 ? upTo(60) : upTo(16);
        int n = random.nextInt(3) == 0 ? upTo(61) : upTo(20);
        int v = random.nextInt(3) == 0 ? random.nextInt() : random.nextInt(300) - 20;
        String at = "(" + s + ", " + form + ", " + i;
        switch (random.nextInt(9)) {
            case 0:
                check.due("sheet(" + s + ", " + form + ", " + n + ")",
                        x.sheet(s, form, n), y.sheet(s, form, n));
                break;
            case 1:
                if (random.nextInt(3) == 0) {
                    check.due("lose(" + s + ")", x.lose(s), y.lose(s));
                }
                break;
            case 2: case 3: case 4:
                check.due("lay" + at + ", " + v + ")", x.lay(s, form, i, v), y.lay(s, form, i, v));
                break;
            case 5: case 6:
                check.due("get" + at + ")", x.get(s, form, i), y.get(s, form, i));
                check.due("count(8)", x.count(8), y.count(8));
                return 2;
            case 7:
                int t = random.nextBoolean() ? s : upTo(4);
                int j = upTo(12);
                check.due("copy(" + s + ", " + i + ", " + t + ", " + j + ", " + n + ")",
                        x.copy(s, i, t, j, n), y.copy(s, i, t, j, n));
                break;
            default:
                int row = upTo(15);
                check.due("write(" + row + ", " + s + ")", x.write(row, s), y.write(row, s));
        }
        return 1;
    }

    private int digest() {
        check.due("digest()", x.digest(), y.digest());
        return 1;
    }
}
