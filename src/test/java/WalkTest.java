import java.math.BigInteger;

/** Promises 11, 14 to 16, 18, 19, 22 to 24, 42 and 43: going, walking, undoing, images. */
public final class WalkTest {
    private static final int NONE = HeathForks.NONE;
    private static final int HIDDEN = HeathForks.HIDDEN;
    private static final String HEATH = "sw3h2;vc1d5;fc0w10;fc5g1w10";

    public static void main(String[] args) {
        go();
        sharedCell();
        reach();
        stuck();
        book();
        undo();
        undoOfFortyActs();
        run();
        perform();
        image();
        strollBounds();
        strollDraws();
        Check.finish("WalkTest");
    }

    private static void go() {
        HeathForks x = new HeathForks();
        Check.due("go without heath", x.go(0, 0), NONE);
        Check.due("trail without heath", x.trail(0, 0), NONE);
        Check.tell(x, 0, HEATH);
        Check.due("go off the heath, up", x.go(0, 3), NONE);
        Check.due("go off the heath, left", x.go(0, 2), NONE);
        Check.due("go off the heath, down", x.go(1, 1), NONE);
        Check.due("go off the heath, right", x.go(1, 0), NONE);
        Check.due("go(0, 4)", x.go(0, 4), NONE);
        Check.due("go(0, -1)", x.go(0, -1), NONE);
        Check.due("go(2, 0)", x.go(2, 0), NONE);
        Check.due("go(-1, 0)", x.go(-1, 0), NONE);
        Check.due("refused steps are no acts", x.count(13), 0);
        Check.due("go to water", x.go(0, 0), 6);
        Check.due("go on", x.go(0, 0), 0);
        Check.due("go where the other guild began", x.go(0, 1), NONE);
        Check.due("go where the other guild was", x.go(1, 3), NONE);
        Check.due("go left", x.go(1, 2), 0);
        Check.due("go back", x.go(0, 2), 6);
        Check.due("go down where the other guild is", x.go(0, 1), NONE);
        Check.due("where it is", x.fork(0, 0), 1);
        Check.due("trail(0, 0)", x.trail(0, 0), 7);
        Check.due("trail(1, 0)", x.trail(1, 0), 48);
        Check.due("free of 0", x.trail(0, 1), 15);
        Check.due("free of 1", x.trail(1, 1), 56);
        Check.due("trail(2, 0)", x.trail(2, 0), NONE);
        Check.due("trail(-1, 0)", x.trail(-1, 0), NONE);
        Check.due("trail(0, 2)", x.trail(0, 2), NONE);
        Check.due("trail(0, -1)", x.trail(0, -1), NONE);
    }

    private static void sharedCell() {
        HeathForks x = Check.heath("sw2h1;f;fg1");
        Check.due("reach from a shared cell", x.reach(0, 9), 3);
        Check.due("both can go", x.stuck(), 0);
        Check.due("go from a shared cell", x.go(0, 0), 0);
        Check.due("it can't come back", x.go(0, 2), NONE);
        Check.due("nor the other follow", x.go(1, 0), NONE);
        Check.due("both are stuck", x.stuck(), 3);
        Check.due("reach where it is", x.reach(1, 3), 1);
        HeathForks y = Check.heath("sw2h1;f;f");
        Check.due("of one guild, one may follow", y.go(0, 0) + y.go(1, 0), 0);
    }

    private static void reach() {
        HeathForks x = Check.heath(HEATH);
        x.go(0, 0);
        x.go(1, 2);
        Check.due("reach(0, 0)", x.reach(0, 0), 2);
        Check.due("reach(0, 1)", x.reach(0, 1), 7);
        Check.due("reach(0, 2)", x.reach(0, 2), 15);
        Check.due("reach(0, 9)", x.reach(0, 9), 15);
        Check.due("reach(1, 1)", x.reach(1, 1), 56);
        Check.due("reach(1, 2)", x.reach(1, 2), 60);
        Check.due("reach(0, 10)", x.reach(0, 10), NONE);
        Check.due("reach(0, -1)", x.reach(0, -1), NONE);
        Check.due("reach(2, 1)", x.reach(2, 1), NONE);
        Check.due("reach(-1, 1)", x.reach(-1, 1), NONE);
        Check.tell(x, 0, "sw6h5;f");
        Check.due("reach over all", x.reach(0, 9), (1 << 30) - 1);
        Check.due("reach all but the last", x.reach(0, 8), (1 << 29) - 1);
    }

    private static void stuck() {
        HeathForks x = new HeathForks();
        Check.due("stuck without heath", x.stuck(), NONE);
        Check.tell(x, 0, "sw3h1;fc1;fc0g1;fc2g1");
        Check.due("all stuck", x.stuck(), 7);
        Check.tell(x, 0, "sw1h1;f;f;fg1");
        Check.due("one cell", x.stuck(), 7);
        Check.tell(x, 0, "sw3h2;fc1;fc0g1;fc2g1");
        Check.due("none stuck", x.stuck(), 0);
        x.go(1, 1);
        x.go(1, 0);
        Check.due("the first stuck", x.stuck(), 1);
    }

    private static void book() {
        HeathForks x = Check.heath(HEATH);
        Check.due("book at first", x.book(0, 0), NONE);
        x.go(0, 0);
        x.go(1, 2);
        int[][] dues = {{1, 4, 0}, {0, 1, 6}};
        for (int i = 0; i < 2; i++) {
            for (int what = 0; what < 3; what++) {
                Check.due("book(" + i + ", " + what + ")", x.book(i, what), dues[i][what]);
            }
        }
        Check.due("book(2, 0)", x.book(2, 0), NONE);
        Check.due("book(-1, 0)", x.book(-1, 0), NONE);
        Check.due("book(0, 3)", x.book(0, 3), NONE);
        Check.due("book(0, -1)", x.book(0, -1), NONE);
        for (int i = 0; i < 58; i++) {
            x.go(0, 2 * (1 - i % 2));
        }
        Check.due("60 in the book", x.count(12), 60);
        Check.due("the first is there", x.book(59, 2), 6);
        Check.due("the latest", x.book(0, 1), 1);
        x.go(0, 2);
        Check.due("60 at most", x.count(12), 60);
        Check.due("the first is gone", x.book(59, 0), 1);
        Check.due("book(60, 0)", x.book(60, 0), NONE);
        Check.due("undo brings it back", x.undo(), 39);
        Check.due("the first again", x.book(59, 2), 6);
        Check.due("60 still", x.count(12), 60);
        x.undo();
        Check.due("59 then", x.count(12), 59);
    }

    private static void undo() {
        HeathForks x = Check.heath("sw3h2;vc1d20;fc0w40;fc5g1w10");
        x.go(0, 0);
        x.go(0, 2);
        x.sink(1);
        x.season();
        x.go(1, 2);
        Check.due("pay", x.fork(0, 6), 2);
        Check.due("undo a step", x.undo(), 4);
        Check.due("where it was", x.fork(1, 0), 5);
        Check.due("trail without it", x.trail(1, 0), 32);
        Check.due("book without it", x.count(12), 2);
        Check.due("undo a season", x.undo(), 3);
        Check.due("the season", x.count(7), 0);
        Check.due("undo a well", x.undo(), 2);
        Check.due("no pay", x.fork(0, 6), 0);
        Check.due("no well", x.count(8), 0);
        Check.due("no cost", x.count(10), 0);
        Check.due("not sunk", x.cell(1, 4), 0);
        Check.due("undo a step back", x.undo(), 1);
        Check.due("it is where it went", x.fork(0, 0), 1);
        Check.due("where it began it was", x.trail(0, 0), 3);
        Check.due("undo the first", x.undo(), 0);
        Check.due("trail as at first", x.trail(0, 0), 1);
        Check.due("nothing more", x.undo(), NONE);
        x.season();
        x.season();
        x.season();
        x.season();
        Check.due("undo from season 0", x.undo(), 3);
        Check.due("season 3", x.count(7), 3);
        HeathForks none = new HeathForks();
        Check.due("undo without heath", none.undo(), NONE);
    }

    private static void undoOfFortyActs() {
        HeathForks x = Check.heath("sw2h1;f");
        Check.tell(x, 2, "0rlrlrlrl;0rlrlrlrl;0rlrlrlrl;0rlrlrlrl;0rlrlrlrl;0rlrlrlrl;0rlrlrlrl;0rlrlrlrl");
        Check.due("64 steps", x.perform(0), 64);
        Check.due("40 can be undone", x.count(13), 40);
        for (int i = 1; i <= 40; i++) {
            Check.due("undo " + i, x.undo(), 40 - i);
            Check.due("place behind undo " + i, x.fork(0, 0), i % 2);
            Check.due("book behind undo " + i, x.count(12), Math.min(60, 64 - i));
        }
        Check.due("undo 41", x.undo(), NONE);
        x.season();
        Check.due("an act again", x.count(13), 1);
    }

    private static void run() {
        HeathForks x = new HeathForks();
        Check.due("run without heath", x.run(0, 0), HIDDEN);
        Check.tell(x, 2, "0rr;1l;0d;1r");
        Check.due("run with walks, without heath", x.run(0, 0), HIDDEN);
        Check.due("perform without heath", x.perform(0), NONE);
        Check.tell(x, 0, HEATH);
        Check.due("the first that can't be", x.run(0, 0), 3);
        Check.due("twitches up to there", x.run(0, 1), 6);
        Check.due("apart: the fork", x.fork(0, 0), 0);
        Check.due("apart: the book", x.count(12), 0);
        Check.due("apart: the trail", x.trail(0, 0), 1);
        Check.due("apart: acts", x.count(13), 0);
        Check.tell(x, 2, "0rl;0rl;0r");
        Check.due("all can be", x.run(1, 0), NONE);
        Check.due("twitches of all", x.run(1, 1), 18);
        Check.tell(x, 2, "2r;0r");
        Check.due("no such fork", x.run(2, 0), 0);
        Check.due("no twitches", x.run(2, 1), 0);
        Check.due("run(3, 0)", x.run(3, 0), HIDDEN);
        Check.due("run(-1, 0)", x.run(-1, 0), HIDDEN);
        Check.due("run(0, 2)", x.run(0, 2), HIDDEN);
        Check.due("run(0, -1)", x.run(0, -1), HIDDEN);
        Check.tell(x, 1, "y:o");
        Check.tell(x, 0, "sw2h1;f;fc1");
        x.law(0);
        Check.tell(x, 2, "0r;1l;0l");
        Check.due("who is where as it goes", x.run(3, 1), 2 + 1 + 2);
    }

    private static void perform() {
        HeathForks x = Check.heath(HEATH);
        Check.tell(x, 2, "0rr;1l;0d;1r");
        Check.due("perform", x.perform(0), 3);
        Check.due("its acts", x.count(13), 3);
        Check.due("its book", x.count(12), 3);
        Check.due("where 0 is", x.fork(0, 0), 2);
        Check.due("where 1 is", x.fork(1, 0), 4);
        Check.due("perform again", x.perform(0), 0);
        Check.due("perform(1)", x.perform(1), NONE);
        Check.due("perform(-1)", x.perform(-1), NONE);
    }

    private static void image() {
        HeathForks x = new HeathForks();
        Check.due("image without heath", x.image(), NONE);
        Check.tell(x, 0, "sw3h2;vc1d20;fc0w40;fc5g1w10");
        Check.due("back without image", x.back(), NONE);
        x.go(0, 0);
        x.sink(1);
        x.season();
        Check.due("image", x.image(), 1);
        Check.due("acts stay", x.count(13), 3);
        x.go(0, 0);
        x.sink(0);
        x.sink(2);
        x.season();
        x.hear(0, 0, true);
        Check.due("back", x.back(), 1);
        Check.due("where forks are", x.fork(0, 0), 1);
        Check.due("where they were", x.trail(0, 0), 3);
        Check.due("the book", x.count(12), 1);
        Check.due("wells", x.count(8), 2);
        Check.due("sunk", x.cell(1, 4) + x.cell(0, 4), 20);
        Check.due("cost", x.count(10), 20);
        Check.due("pay", x.count(9), 2);
        Check.due("heard stays", x.count(11), 1);
        Check.due("no act then", x.count(13), 0);
        Check.due("nothing to undo then", x.undo(), NONE);
        x.season();
        Check.due("back once more", x.back(), 1);
        x.season();
        Check.due("another image", x.image(), 2);
        x.season();
        Check.due("back to that", x.back(), 2);
        Check.tell(x, 0, "f");
        Check.due("no image of this heath", x.back(), NONE);
    }

    private static void strollBounds() {
        HeathForks x = new HeathForks();
        Check.due("stroll without heath", x.stroll(1, 1), NONE);
        Check.tell(x, 0, "f");
        Check.due("stroll(0)", x.stroll(0, 1), NONE);
        Check.due("stroll(61)", x.stroll(61, 1), NONE);
        Check.due("stroll(-1)", x.stroll(-1, 1), NONE);
        Check.due("nothing was gone", x.count(12), 0);
        int gone = x.stroll(60, -5L);
        Check.due("a page for each step", x.count(12), gone);
        Check.due("an act for each step", x.count(13), Math.min(40, gone));
        Check.tell(x, 0, "sw1h1;f");
        Check.due("nowhere to go", x.stroll(60, 7), 0);
    }

    /** Draws by whole numbers instead of wrapping ones, and goes step by step with go. */
    private static void strollDraws() {
        String heath = "sw4h3;v:rrdd;ic8;fc0e9;fc11e5g1;fc3e0i5";
        long[] seeds = {0, 1, -1, 42, Long.MIN_VALUE, Long.MAX_VALUE, 123456789012345L};
        for (long seed : seeds) {
            HeathForks x = Check.heath(heath);
            HeathForks y = Check.heath(heath);
            BigInteger state = BigInteger.valueOf(seed);
            int gone = 0;
            int[] pages = new int[60];
            for (int i = 0; i < 60; i++) {
                state = next(state);
                int fork = draw(state, 3);
                state = next(state);
                int twitch = y.go(fork, draw(state, 4));
                if (twitch == NONE) {
                    continue;
                }
                state = next(state);
                boolean errs = draw(state, 10) < y.fork(fork, 4);
                pages[gone] = errs ? (twitch > 0 ? 0 : 1) : twitch;
                gone++;
            }
            Check.due("steps gone by seed " + seed, x.stroll(60, seed), gone);
            for (int i = 0; i < gone; i++) {
                Check.due("fork by seed " + seed, x.book(gone - 1 - i, 0), y.book(gone - 1 - i, 0));
                Check.due("cell by seed " + seed, x.book(gone - 1 - i, 1), y.book(gone - 1 - i, 1));
                Check.due("twitch by seed " + seed, x.book(gone - 1 - i, 2), pages[i]);
            }
        }
    }

    private static BigInteger next(BigInteger state) {
        return state.multiply(new BigInteger("6364136223846793005")).add(new BigInteger("1442695040888963407"))
            .mod(BigInteger.ONE.shiftLeft(64));
    }

    private static int draw(BigInteger state, int m) {
        return state.shiftRight(33).mod(BigInteger.valueOf(m)).intValue();
    }
}
