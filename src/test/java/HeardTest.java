/** Promises 25 to 33 and 37: what was heard, what fits it, and what the book says. */
public final class HeardTest {
    private static final int NONE = HeathForks.NONE;
    private static final int HIDDEN = HeathForks.HIDDEN;

    public static void main(String[] args) {
        without();
        hear();
        fits();
        sureAndAsk();
        wrong();
        chance();
        wishers();
        right();
        best();
        heap();
        Check.finish("HeardTest");
    }

    private static void without() {
        HeathForks x = new HeathForks();
        Check.due("hear", x.hear(0, 0, true), NONE);
        Check.due("fits", x.fits(2, NONE), NONE);
        Check.due("sure", x.sure(2), NONE);
        Check.due("ask", x.ask(2), NONE);
        Check.due("wrong", x.wrong(2), NONE);
        Check.due("chance", x.chance(0), NONE);
        Check.due("wishers", x.wishers(0), NONE);
        Check.due("right", x.right(0), HIDDEN);
        Check.due("best", x.best(), NONE);
        Check.due("heap", x.heap(), NONE);
    }

    private static void hear() {
        HeathForks x = Check.heath("sw3h2;f;f;f");
        Check.due("hear(3, ..)", x.hear(3, 0, true), NONE);
        Check.due("hear(-1, ..)", x.hear(-1, 0, true), NONE);
        Check.due("hear(.., 6, ..)", x.hear(0, 6, true), NONE);
        Check.due("hear(.., -1, ..)", x.hear(0, -1, true), NONE);
        for (int i = 1; i <= 12; i++) {
            Check.due("hear " + i, x.hear(i % 3, i % 6, false), i);
        }
        Check.due("hear 13", x.hear(0, 0, true), NONE);
        Check.due("12 heard", x.count(11), 12);
        Check.due("nothing heard is an act", x.count(13), 0);
    }

    private static void fits() {
        HeathForks x = Check.heath("sw3h2;f;f;f");
        int[] two = {0, 1, 100, 101, 201, 300, 400};
        Check.due("fits(2, -1)", x.fits(2, NONE), 7);
        for (int i = 0; i < 7; i++) {
            Check.due("fits(2, " + i + ")", x.fits(2, i), two[i]);
        }
        Check.due("fits(2, 7)", x.fits(2, 7), NONE);
        Check.due("fits(2, -2)", x.fits(2, -2), NONE);
        Check.due("fits(1, -1)", x.fits(1, NONE), NONE);
        Check.due("fits(6, -1)", x.fits(6, NONE), NONE);
        int[] four = {1, 2, 4};
        Check.due("fits(4, -1)", x.fits(4, NONE), 3);
        for (int i = 0; i < 3; i++) {
            Check.due("fits(4, " + i + ")", x.fits(4, i), four[i]);
        }
        Check.due("fits(5, -1)", x.fits(5, NONE), 0);
        Check.due("fits(5, 0)", x.fits(5, 0), NONE);
        x.hear(0, 4, false);
        Check.due("not through 4", x.fits(4, NONE), 1);
        Check.due("the one", x.fits(4, 0), 1);
        x.hear(1, 1, true);
        Check.due("with 1, without 4", x.fits(2, NONE), 2);
        Check.due("the first", x.fits(2, 0), 0);
        Check.due("the second", x.fits(2, 1), 100);
        HeathForks big = Check.heath("sw6h5;f");
        Check.due("all of 5 on the largest heath", big.fits(5, NONE), fives());
        Check.due("the last of them", big.fits(5, fives() - 1), 2500 + 0);
        Check.due("the first of them", big.fits(5, 0), 0);
        Check.due("the second of them", big.fits(5, 1), 1);
    }

    private static int fives() {
        int found = 0;
        for (int row = 0; row < 5; row++) {
            for (int column = 0; column < 6; column++) {
                for (int turns = 0; turns < 16; turns++) {
                    int down = Integer.bitCount(turns);
                    found += row + down < 5 && column + 4 - down < 6 ? 1 : 0;
                }
            }
        }
        return found;
    }

    private static void sureAndAsk() {
        HeathForks x = Check.heath("sw3h2;f;f;f");
        Check.due("sure(4)", x.sure(4), 33);
        Check.due("sure(2)", x.sure(2), 0);
        Check.due("ask(4)", x.ask(4), 1);
        Check.due("ask(2)", x.ask(2), 1);
        Check.due("sure(5)", x.sure(5), NONE);
        Check.due("ask(5)", x.ask(5), NONE);
        for (int n = 1; n <= 6; n += 5) {
            Check.due("sure out of bounds", x.sure(n), NONE);
            Check.due("ask out of bounds", x.ask(n), NONE);
            Check.due("wrong out of bounds", x.wrong(n), NONE);
        }
        x.hear(0, 4, false);
        Check.due("sure of one", x.sure(4), 1 + 2 + 4 + 32);
        Check.due("ask of one: all are as far apart", x.ask(4), 0);
        HeathForks y = Check.heath("sw4h3;f");
        y.hear(0, 1, true);
        y.hear(0, 2, false);
        Check.due("ask as even as can be", y.ask(2), 0);
        y.hear(0, 0, false);
        Check.due("sure of the last", y.sure(2), 34);
    }

    private static void wrong() {
        HeathForks x = Check.heath("sw3h2;f;f;f");
        Check.due("wrong, all fits", x.wrong(4), 0);
        x.hear(0, 4, false);
        Check.due("wrong, one fits", x.wrong(4), 0);
        x.hear(1, 4, true);
        Check.due("wrong, either", x.wrong(4), 3);
        Check.due("wrong, nothing ever fits", x.wrong(5), 0);
        Check.due("nothing fits", x.fits(4, NONE), 0);
        x.hear(1, 5, false);
        Check.due("wrong, one of them", x.wrong(4), 2);
        x.hear(2, 0, false);
        Check.due("wrong, no one by itself", x.wrong(4), 0);
    }

    private static void chance() {
        HeathForks x = Check.heath("sw3h1;vc1d5;fc0w10e2;fc2w3e3");
        Check.due("as likely as not", x.chance(1), 500000);
        x.go(0, 0);
        Check.due("one says yes", x.chance(1), 800000);
        x.go(1, 2);
        Check.due("one says no", x.chance(1), 631578);
        Check.due("chance(3)", x.chance(3), NONE);
        Check.due("chance(-1)", x.chance(-1), NONE);
        Check.tell(x, 1, "y:0");
        x.law(0);
        x.go(0, 2);
        x.go(0, 0);
        Check.due("the latest counts", x.chance(1), 6 * 1000000 / (6 + 56));
        Check.due("where it went back", x.chance(0), 200000);
        HeathForks sure = Check.heath("sw3h1;vc1d5;fc0w10;fc2w3;fc2w3");
        sure.go(1, 2);
        Check.due("surely not", sure.chance(1), 0);
        sure.go(0, 0);
        Check.due("both together 0", sure.chance(1), NONE);
        HeathForks many = Check.heath("sw2h1;vc1d5;fe1;fe1;fe1;fe1;fe1;fe1");
        for (int fork = 0; fork < 6; fork++) {
            many.go(fork, 0);
        }
        Check.due("six of them", many.chance(1), 531441L * 1000000 / (531441 + 1));
    }

    private static void wishers() {
        HeathForks x = Check.heath("sw3h1;v;ic1;fx2;fx1;fx2i9");
        Check.due("with water", x.wishers(0), NONE);
        Check.due("with iron", x.wishers(1), NONE);
        Check.due("wishers(2)", x.wishers(2), 5);
        Check.due("wishers(3)", x.wishers(3), NONE);
        Check.due("wishers(-1)", x.wishers(-1), NONE);
        Check.tell(x, 1, "y:1-x");
        x.law(0);
        Check.due("by the law", x.wishers(2), 2);
    }

    private static void right() {
        HeathForks x = Check.heath("sw4h1a2;vc1d9;ic2d1;fc0w10i2x3;fc0w10");
        x.go(0, 0);
        Check.due("water", x.right(0), 1);
        x.go(0, 0);
        Check.due("iron is none", x.right(0), 0);
        x.go(0, 0);
        Check.due("a wish is none", x.right(0), -1);
        Check.due("of another", x.right(1), 0);
        x.go(1, 0);
        x.go(1, 0);
        Check.due("no twitch counts nothing", x.right(1), 1);
        x.season();
        Check.due("too deep now", x.right(1), -1);
        Check.due("too deep now, with others", x.right(0), -3);
        Check.due("right(2)", x.right(2), HIDDEN);
        Check.due("right(-1)", x.right(-1), HIDDEN);
    }

    private static void best() {
        HeathForks x = Check.heath("sw4h1a2;vc1d9;f;f;f");
        Check.due("of several the lowest", x.best(), 0);
        x.go(2, 0);
        Check.due("the most", x.best(), 2);
        x.go(1, 0);
        Check.due("of two the lowest", x.best(), 1);
        HeathForks y = Check.heath("sw2h1;fx1;f");
        y.go(0, 0);
        Check.due("less than 0", y.best(), 1);
    }

    private static void heap() {
        HeathForks x = Check.heath("sw4h1;vc1d9;vc3d1;f;fc2;fc2");
        Check.due("none", x.heap(), NONE);
        x.go(1, 2);
        x.go(1, 0);
        Check.due("one", x.heap(), 1);
        x.go(1, 0);
        Check.due("of several the lowest", x.heap(), 1);
        x.go(2, 0);
        Check.due("the most, not the greatest", x.heap(), 3);
        x.go(0, 0);
        Check.due("of several the lowest again", x.heap(), 1);
    }
}
