import java.util.Random;

/**
 * Damage that is aimed at the blocks, up to what the checks can bear and a little beyond it,
 * against Naive: what is mended, what it cost, which dot would be one too many.
 */
public final class MendTest {
    private static final int RUNS = 900;
    private static final Check CHECK = new Check();
    private static final String[] NAMES = {"low", "mid", "top"};

    public static void main(String[] args) {
        Random random = new Random(args.length > 0 ? Long.parseLong(args[0]) : 31);
        int runs = args.length > 1 ? Integer.parseInt(args[1]) : RUNS;
        int[] outcomes = new int[5];
        int straws = 0;
        for (int run = 0; run < runs && CHECK.wrong() == 0; run++) {
            CHECK.part("run " + run);
            DotSquares x = new DotSquares();
            Naive y = new Naive();
            int level = run % 3;
            typeBoth(x, y, level, random);
            for (int block = 0; block < 3; block++) {
                hurtBlock(x, y, block, 2 + 2 * level + (random.nextInt(6) == 0 ? 1 : 0), random);
            }
            if (random.nextInt(4) == 0) {
                hurtFormat(x, y, random);
            }
            compare(x, y);
            outcomes[x.why()]++;
            straws += x.straw(0) == DotSquares.NONE ? 0 : 1;
        }
        CHECK.holds("each of the outcomes 0 to 2 was met", outcomes[0] > 0 && outcomes[1] > 0 && outcomes[2] > 0);
        CHECK.holds("straws were met", straws > 0);
        CHECK.finish("MendTest");
    }

    private static void typeBoth(DotSquares x, Naive y, int level, Random random) {
        for (char c : NAMES[level].toCharArray()) {
            CHECK.due("type(1, " + (int) c + ")", x.type(1, c), y.type(1, c));
        }
        int bytes = random.nextInt(12);
        for (int i = 0; i < bytes; i++) {
            int b = random.nextInt(256);
            CHECK.due("type(0, " + b + ")", x.type(0, b), y.type(0, b));
        }
    }

    /** Symbols gone and wrong, as many as so many checks can bear. */
    private static void hurtBlock(DotSquares x, Naive y, int block, int checks, Random random) {
        int gone = random.nextInt(checks + 1);
        int wrong = (checks - gone) / 2;
        int[] places = random.ints(0, 14).distinct().limit(gone + wrong).toArray();
        for (int i = 0; i < places.length; i++) {
            int bits = 1 + random.nextInt(15);
            for (int which = 0; which < 4; which++) {
                if ((bits >> which & 1) == 1) {
                    hurtDot(x, y, 4 * (3 * places[i] + block) + which, i < gone);
                }
            }
        }
    }

    private static void hurtDot(DotSquares x, Naive y, int order, boolean lose) {
        for (int r = 0; r < 15; r++) {
            for (int c = 0; c < 15; c++) {
                if (y.place(r, c, 0) == order) {
                    if (lose) {
                        CHECK.due("lost", x.lost(r, c), y.lost(r, c));
                    } else {
                        CHECK.due("turn", x.turn(r, c), y.turn(r, c));
                    }
                }
            }
        }
    }

    private static void hurtFormat(DotSquares x, Naive y, Random random) {
        int times = 1 + random.nextInt(4);
        for (int i = 0; i < times; i++) {
            int r = random.nextInt(3) == 0 ? 11 : 3;
            int c = random.nextInt(4) + (r == 3 && random.nextBoolean() ? 11 : 0);
            if (random.nextBoolean()) {
                CHECK.due("turn", x.turn(r, c), y.turn(r, c));
            } else {
                CHECK.due("lost", x.lost(r, c), y.lost(r, c));
            }
        }
    }

    private static void compare(DotSquares x, Naive y) {
        CHECK.due("why()", x.why(), y.why());
        for (int block = 0; block < 3; block++) {
            for (int what = 0; what < 3; what++) {
                CHECK.due("block(" + block + ", " + what + ")", x.block(block, what), y.block(block, what));
            }
            for (int p = 0; p < 14; p++) {
                CHECK.due("mended(" + block + ", " + p + ")", x.mended(block, p), y.mended(block, p));
            }
        }
        for (int what = 0; what < 2; what++) {
            CHECK.due("format(" + what + ")", x.format(what), y.format(what));
            CHECK.due("straw(" + what + ")", x.straw(what), y.straw(what));
        }
        for (int i = -1; i < 14; i++) {
            CHECK.due("told(" + i + ")", x.told(i), y.told(i));
        }
        CHECK.due("digest()", x.digest(), y.digest());
    }
}
