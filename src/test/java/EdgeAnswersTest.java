/** The edges that promises 20, 21, 25 to 37 and 44 name, with part 3: one method for each sentence. */
public final class EdgeAnswersTest {
    private static final int NONE = HeathForks.NONE;
    private static final int HIDDEN = HeathForks.HIDDEN;

    public static void main(String[] args) {
        bringsOfNoSuchOnes();
        cheapestOutOfBounds();
        cheapestOfUpToThree();
        cheapestWithin60();
        cheapestBringsEnough();
        cheapestOfSeveral();
        cheapestIfTheyDoAlready();
        cheapestIsReckonedAnew();
        heardTwelve();
        fitsOutOfBounds();
        fitsOnEachHeath();
        fitsRising();
        fitsWhatWasHeard();
        sureOfNothing();
        askLeastApart();
        wrongByItself();
        chanceOfEach();
        chanceOfOneTwitch();
        chanceOfTheLatest();
        chanceOfBothNought();
        wishersOnlyWithout();
        wishersNow();
        trueWithinWhatItHeeds();
        trueOfTwitchesAboveNought();
        bestOfSeveral();
        nearestItself();
        nearestByVeins();
        meetsOfTwoOrMore();
        shallowOfSeveral();
        heapOfSeveral();
        heapOfTwitchesAboveNought();
        Check.finish("EdgeAnswersTest");
    }

    // "NONE: no such WELL, no such SEASON"
    private static void bringsOfNoSuchOnes() {
        HeathForks x = Check.heath("sw3h2;vd10:rr;f");
        x.sink(1);
        for (int cell = -3; cell <= 8; cell++) {
            for (int season = -2; season <= 6; season++) {
                boolean can = season >= 0 && season <= 3 && (cell == 1 || cell == NONE);
                int due = can ? (season == 0 ? 9 : 0) : NONE;
                Check.due("brings(" + cell + ", " + season + ")", x.brings(cell, season), due);
            }
        }
    }

    // "n (1 .. 40)", "NONE: .. out of bounds"
    private static void cheapestOutOfBounds() {
        HeathForks x = Check.heath("sw6h5a0;vd1:rrrrr;f");
        for (int cell = 0; cell <= 4; cell += 2) {
            x.sink(cell);
        }
        Check.due("30 already", x.brings(NONE, 2), 30);
        for (int n = -2; n <= 30; n++) {
            Check.due("cheapest(" + n + ", 0)", x.cheapest(n, 0), n >= 1 ? 0 : NONE);
            Check.due("cheapest(" + n + ", 1)", x.cheapest(n, 1), n >= 1 ? 0 : NONE);
        }
        for (int what = -2; what <= 4; what++) {
            Check.due("cheapest(1, " + what + ")", x.cheapest(1, what), what == 0 || what == 1 ? 0 : NONE);
        }
        HeathForks many = Check.heath("sw5h4a0;vd1:rrrr;vc10d1:rrrr;f");
        for (int cell : new int[] {0, 2, 4, 10, 12}) {
            many.sink(cell);
        }
        Check.due("50 already", many.brings(NONE, 2), 50);
        Check.due("cheapest(40, 0)", many.cheapest(40, 0), 0);
        Check.due("cheapest(41, 0)", many.cheapest(41, 0), NONE);
        Check.due("cheapest(41, 1)", many.cheapest(41, 1), NONE);
        Check.due("cheapest(1, 0)", many.cheapest(1, 0), 0);
        Check.due("cheapest(0, 0)", many.cheapest(0, 0), NONE);
    }

    // "sets of up to 3 CELLS", "NONE: none of up to 3 is enough"
    private static void cheapestOfUpToThree() {
        HeathForks x = Check.heath("sw6h2a0;vc0d1;vc2d1;vc4d1;vc7d1;f");
        int[] sets = {1, 1 + 4, 1 + 4 + 16};
        for (int n = 1; n <= 40; n++) {
            int many = (n + 9) / 10;
            Check.due("set for " + n, x.cheapest(n, 0), many <= 3 ? sets[many - 1] : NONE);
            Check.due("cost for " + n, x.cheapest(n, 1), many <= 3 ? many : NONE);
        }
        x.sink(7);
        Check.due("three and the one there is", x.cheapest(40, 0), 1 + 4 + 16);
    }

    // "CELLS with WATER within 60 then alone", "as deep as WATER is then"
    private static void cheapestWithin60() {
        for (int depth = 40; depth <= 44; depth++) {
            HeathForks x = Check.heath("sw2h1a9y3;kp2;vd" + depth + ";f");
            int then = depth + 18;
            Check.due("set at " + then, x.cheapest(4, 0), then <= 60 ? 1 : NONE);
            Check.due("cost at " + then, x.cheapest(4, 1), then <= 60 ? 5 * then : NONE);
        }
        HeathForks dry = Check.heath("f;i;k");
        Check.due("no water", dry.cheapest(1, 0), NONE);
        HeathForks x = Check.heath("sw2h1a9;vd10;f");
        x.season();
        Check.due("cost of season 2, in season 1", x.cheapest(8, 1), 28);
        x.season();
        Check.due("cost of season 2, in season 2", x.cheapest(8, 1), 28);
        Check.due("it brings 8 then", x.cheapest(9, 1), NONE);
    }

    // "so that all WELLS there are and these together BRING n or more in SEASON 2"
    private static void cheapestBringsEnough() {
        for (int depth = 1; depth <= 60; depth++) {
            HeathForks x = Check.heath("sw1h1a0;vd" + depth + ";f");
            int brings = 10 - depth / 10;
            Check.due("just enough at " + depth, x.cheapest(brings, 0), 1);
            Check.due("one more at " + depth, x.cheapest(brings + 1, 0), NONE);
        }
        HeathForks x = Check.heath("sw3h1a0;vd10:rr;f");
        Check.due("one", x.cheapest(9, 0), 1);
        Check.due("two beside one another", x.cheapest(16, 0), 3);
        Check.due("two apart", x.cheapest(17, 0), 5);
        Check.due("two apart, at most", x.cheapest(18, 0), 5);
        Check.due("three", x.cheapest(19, 0), 7);
        Check.due("three at most", x.cheapest(23, 0), 7);
        Check.due("more", x.cheapest(24, 0), NONE);
        x.sink(1);
        Check.due("with one there is", x.cheapest(10, 0), 1);
        Check.due("with two more", x.cheapest(23, 0), 5);
        HeathForks shallow = Check.heath("sw3h1a1;vd10:rr;f");
        shallow.sink(1);
        Check.due("one too shallow takes all the same", shallow.cheapest(9, 0), 5);
        Check.due("at most", shallow.cheapest(16, 0), 5);
        Check.due("more than that", shallow.cheapest(17, 0), NONE);
    }

    // "the one with the least COST (.. of several the fewest, then the least)"
    private static void cheapestOfSeveral() {
        HeathForks least = Check.heath("sw6h1a0;vc5d10;vc3d10;vc1d10;f");
        Check.due("the least", least.cheapest(9, 0), 2);
        Check.due("the least of two", least.cheapest(18, 0), 2 + 8);
        HeathForks cost = Check.heath("sw6h1a0;vc5d9;vc3d10;vc1d11;f");
        Check.due("the cheapest, not the least", cost.cheapest(9, 0), 32);
        Check.due("the cheapest of two", cost.cheapest(18, 0), 32 + 8);
        HeathForks fewest = Check.heath("sw6h1a0;vc0d10;vc2d10;vc5d4;kc5p4;f");
        Check.due("one of the cost of two", fewest.cheapest(10, 0), 32);
        Check.due("its cost", fewest.cheapest(10, 1), 20);
        HeathForks pair = Check.heath("sw6h2a0;vd10;vc2d10;vc4d10;vc11d5;kc11p3;f");
        Check.due("two of the cost of three", pair.cheapest(19, 0), 1 + 2048);
        Check.due("their cost", pair.cheapest(19, 1), 30);
        HeathForks reverse = Check.heath("sw6h2a0;vc11d10;vc9d10;vc7d10;vc0d5;kc0p3;f");
        Check.due("two of the cost of three, the other way", reverse.cheapest(19, 0), 1 + 128);
        Check.due("three, where two are dearer", Check.heath("sw6h2a0;vd10;vc2d10;vc4d10;vc11d5;kc11p4;f")
            .cheapest(19, 0), 21);
        HeathForks all = Check.heath("sw6h5a0;vc29d10;vc27d10;vc25d10;vc0d10;f");
        Check.due("the least of three", all.cheapest(27, 0), 1 + (1 << 25) + (1 << 27));
    }

    // "none, if they do already: 0"
    private static void cheapestIfTheyDoAlready() {
        HeathForks x = Check.heath("sw6h1a0;vd10:rrrrr;f");
        x.sink(0);
        Check.due("just enough", x.cheapest(9, 0), 0);
        Check.due("at no cost", x.cheapest(9, 1), 0);
        Check.due("one short", x.cheapest(10, 0), 2);
        Check.due("one short, cost", x.cheapest(10, 1), 10);
        HeathForks late = Check.heath("sw6h1a5;vd10:rrrrr;f");
        late.sink(0);
        Check.due("in season 2 it does not", late.cheapest(1, 0), 2);
        late.undo();
        late.season();
        late.season();
        late.sink(0);
        Check.due("sunk in season 2 it does", late.cheapest(8, 0), 0);
    }

    private static void cheapestIsReckonedAnew() {
        HeathForks x = Check.heath("sw6h5a0;vc1d10:rrr;f");
        Check.due("first", x.cheapest(9, 0), 2);
        x.sink(1);
        Check.due("with a well", x.cheapest(18, 0), 8);
        x.undo();
        Check.due("without it again", x.cheapest(9, 0), 2);
        Check.tell(x, 0, "sw2h1a0;vc1d10;f");
        Check.due("on another heath", x.cheapest(9, 0), 2);
        Check.tell(x, 0, "sw2h1a0;f");
        Check.due("on one without water", x.cheapest(1, 0), NONE);
        Check.due("its cost", x.cheapest(1, 1), NONE);
    }

    // "HEARD (12 at most)", "NONE: no such ones, there are 12"
    private static void heardTwelve() {
        HeathForks x = Check.heath("sw2h2;f;f");
        for (int fork = -2; fork <= 7; fork++) {
            for (int cell = -2; cell <= 6; cell++) {
                boolean can = fork >= 0 && fork < 2 && cell >= 0 && cell < 4;
                if (!can) {
                    Check.due("hear(" + fork + ", " + cell + ")", x.hear(fork, cell, true), NONE);
                }
            }
        }
        Check.due("none heard", x.count(11), 0);
        for (int i = 1; i <= 12; i++) {
            Check.due("heard " + i, x.hear(i % 2, i % 4, i % 3 == 0), i);
            Check.due("how many", x.count(11), i);
        }
        for (int i = 0; i < 3; i++) {
            Check.due("a thirteenth", x.hear(0, 0, true), NONE);
        }
        Check.due("12 still", x.count(11), 12);
        HeathForks y = Check.heath("sw3h1;f;f");
        for (int i = 0; i < 11; i++) {
            y.hear(0, 0, true);
        }
        Check.due("11 say one thing", y.sure(2), 3);
        y.hear(1, 0, false);
        Check.due("the 12th counts", y.fits(2, NONE), 0);
        Check.due("either is wrong", y.wrong(2), 3);
        y.hear(1, 1, false);
        Check.due("a 13th does not", y.wrong(2), 3);
        Check.tell(y, 0, "sw3h1;f");
        Check.due("room again", y.hear(0, 0, true), 1);
    }

    // "n (2 .. 5)", "NONE: no such one, .. out of bounds"
    private static void fitsOutOfBounds() {
        HeathForks x = Check.heath("sw6h5;f");
        for (int n = -2; n <= 9; n++) {
            boolean can = n >= 2 && n <= 5;
            Check.due("fits(" + n + ", -1) is told", x.fits(n, NONE) != NONE, can);
            Check.due("fits(" + n + ", 0) is told", x.fits(n, 0) != NONE, can);
            Check.due("sure(" + n + ") is told", x.sure(n) != NONE, can);
            Check.due("ask(" + n + ") is told", x.ask(n) != NONE, can);
            Check.due("wrong(" + n + ") is told", x.wrong(n) != NONE, can);
            Check.due("fits(" + n + ", -2)", x.fits(n, -2), NONE);
        }
        for (int n = 2; n <= 5; n++) {
            int many = x.fits(n, NONE);
            Check.due("the last of " + n, x.fits(n, many - 1) != NONE, true);
            Check.due("beyond the last of " + n, x.fits(n, many), NONE);
        }
    }

    private static int fitting(int width, int height, int n) {
        int found = 0;
        for (int cell = 0; cell < width * height; cell++) {
            for (int turns = 0; turns < 1 << n - 1; turns++) {
                int down = Integer.bitCount(turns);
                found += cell / width + down < height && cell % width + n - 1 - down < width ? 1 : 0;
            }
        }
        return found;
    }

    // "of n CELLS, from a CELL on right or down each time": none leaves the heath
    private static void fitsOnEachHeath() {
        for (int width = 1; width <= 6; width++) {
            for (int height = 1; height <= 5; height++) {
                HeathForks x = Check.heath("sw" + width + "h" + height + ";f");
                for (int n = 2; n <= 5; n++) {
                    int many = fitting(width, height, n);
                    Check.due("fits of " + n + " on " + width + " by " + height, x.fits(n, NONE), many);
                    Check.due("sure of " + n, x.sure(n) == NONE, many == 0);
                    Check.due("ask of " + n, x.ask(n) == NONE, many == 0);
                    Check.due("wrong of " + n, x.wrong(n), 0);
                }
            }
        }
    }

    // "(100 times the CELL, and right 0, down 1 as bits, the first the highest)", "the i-th (rising)"
    private static void fitsRising() {
        HeathForks x = Check.heath("sw6h5;f");
        for (int n = 2; n <= 5; n++) {
            int at = 0;
            for (int cell = 0; cell < 30; cell++) {
                for (int turns = 0; turns < 1 << n - 1; turns++) {
                    int down = Integer.bitCount(turns);
                    if (cell / 6 + down < 5 && cell % 6 + n - 1 - down < 6) {
                        if (n > 3 ? at % 5 == 0 : true) {
                            Check.due("vein " + at + " of " + n, x.fits(n, at), 100 * cell + turns);
                        }
                        at++;
                    }
                }
            }
        }
        HeathForks first = Check.heath("sw2h3;f");
        first.hear(0, 1, true);
        Check.due("right, then down: 01", first.fits(3, 0), 1);
        first.hear(0, 3, false);
        Check.due("none other", first.fits(3, NONE), 0);
        HeathForks second = Check.heath("sw2h3;f");
        second.hear(0, 2, true);
        second.hear(0, 0, true);
        Check.due("down, then right: 10", second.fits(3, 0), 2);
        Check.due("down, down: 11", second.fits(3, 1), 3);
    }

    // "(in a CELL of the VEIN WATER, elsewhere not)"
    private static void fitsWhatWasHeard() {
        HeathForks x = Check.heath("sw3h1;f;f");
        x.hear(0, 1, true);
        Check.due("in it", x.fits(2, NONE), 2);
        x.hear(1, 1, true);
        Check.due("said twice", x.fits(2, NONE), 2);
        x.hear(0, 0, false);
        Check.due("not in it", x.fits(2, NONE), 1);
        Check.due("the one", x.fits(2, 0), 100);
        Check.due("of three none", x.fits(3, NONE), 0);
        x.hear(1, 2, false);
        Check.due("none", x.fits(2, NONE), 0);
        Check.due("no first", x.fits(2, 0), NONE);
        HeathForks y = Check.heath("sw3h1;vc1:r;f");
        Check.due("what veins there are does not matter", y.fits(2, NONE), 2);
    }

    // "NONE: nothing fits" (sure, ask)
    private static void sureOfNothing() {
        HeathForks x = Check.heath("sw3h1;f");
        Check.due("of two", x.sure(2), 2);
        Check.due("of three", x.sure(3), 7);
        Check.due("of four", x.sure(4), NONE);
        Check.due("ask of four", x.ask(4), NONE);
        x.hear(0, 1, false);
        Check.due("nothing fits", x.sure(2), NONE);
        Check.due("nothing to ask", x.ask(2), NONE);
        Check.due("how many fit", x.fits(2, NONE), 0);
        HeathForks y = Check.heath("sw6h5;f");
        for (int n = 2; n <= 5; n++) {
            Check.due("no cell is sure at first", y.sure(n), 0);
        }
        y.hear(0, 29, true);
        Check.due("the last cell is sure", y.sure(2), 1 << 29);
    }

    // "the CELL by which yes and no among what fits are least apart in number (of several the lowest)"
    private static void askLeastApart() {
        Check.due("one alone: all are as far apart", Check.heath("sw2h1;f").ask(2), 0);
        Check.due("two: cell 0 is even", Check.heath("sw3h1;f").ask(2), 0);
        Check.due("three: 1 of 3 as 2 of 3", Check.heath("sw4h1;f").ask(2), 0);
        Check.due("four: cell 1 is even", Check.heath("sw5h1;f").ask(2), 1);
        Check.due("five: 2 of 5", Check.heath("sw6h1;f").ask(2), 1);
        Check.due("three of three: 2 of 3 as 1 of 3", Check.heath("sw5h1;f").ask(3), 0);
        Check.due("four of three: cell 1", Check.heath("sw6h1;f").ask(3), 1);
        HeathForks x = Check.heath("sw6h1;f");
        x.hear(0, 0, false);
        x.hear(0, 1, false);
        Check.due("three left: 1 of 3", x.ask(2), 2);
        HeathForks last = Check.heath("sw1h5;f");
        last.hear(0, 0, false);
        last.hear(0, 1, false);
        Check.due("two left", last.ask(2), 2);
        last.hear(0, 2, false);
        Check.due("one left: all are as far apart", last.ask(2), 0);
    }

    // "FORKS (bits), each by itself: if nothing fits, but something does without what it said"
    private static void wrongByItself() {
        HeathForks x = Check.heath("sw3h1;f;f;f;f;f;f");
        Check.due("nobody said a thing", x.wrong(2), 0);
        Check.due("nothing ever fits", x.wrong(4), 0);
        x.hear(5, 1, false);
        Check.due("the sixth", x.wrong(2), 32);
        x.hear(0, 0, true);
        Check.due("still the sixth", x.wrong(2), 32);
        x.hear(0, 2, true);
        Check.due("neither by itself", x.wrong(2), 0);
        Check.due("of three the sixth", x.wrong(3), 32);
        HeathForks y = Check.heath("sw3h1;f;f;f");
        y.hear(0, 0, true);
        y.hear(1, 2, true);
        Check.due("either of two", y.wrong(2), 3);
        Check.due("one who said nothing is not wrong", y.wrong(3), 0);
        y.hear(2, 1, false);
        Check.due("no one by itself", y.wrong(2), 0);
        Check.due("of three the third", y.wrong(3), 4);
        HeathForks z = Check.heath("sw3h1;f;f");
        z.hear(0, 0, true);
        z.hear(0, 0, false);
        z.hear(1, 1, true);
        Check.due("one against itself", z.wrong(2), 1);
    }

    // "right by 10 less e, wrong by e (from 1 each on ..), cut"
    private static void chanceOfEach() {
        for (int first = 0; first <= 9; first++) {
            for (int second = 0; second <= 9; second++) {
                HeathForks x = Check.heath("sw2h1;vc1d5;fw9e" + first + ";fw0e" + second);
                Check.due("as likely as not", x.chance(1), 500000);
                x.go(0, 0);
                Check.due("yes by " + first, x.chance(1), (10 - first) * 100000);
                x.go(1, 0);
                long yes = (10 - first) * second;
                long both = yes + first * (10 - second);
                Check.due("no by " + second, x.chance(1), both == 0 ? NONE : yes * 1000000 / both);
                Check.due("elsewhere", x.chance(0), 500000);
            }
        }
        HeathForks six = Check.heath("sw2h1;vc1d5;f;f;f;f;f;f");
        for (int fork = 0; fork < 6; fork++) {
            six.go(fork, 0);
            Check.due("sure of it", six.chance(1), 1000000);
        }
        Check.due("chance(2)", six.chance(2), NONE);
        Check.due("chance(-1)", six.chance(-1), NONE);
        HeathForks nine = Check.heath("sw2h1;vc1d5;fe9;fe9;fe9;fe9;fe9;fe9");
        for (int fork = 0; fork < 6; fork++) {
            nine.go(fork, 0);
        }
        Check.due("six that err mostly", nine.chance(1), 1000000 / (1 + 531441));
    }

    // "above 0 says yes, 0 no"
    private static void chanceOfOneTwitch() {
        HeathForks x = Check.heath("sw2h1;vc1d9;fw9e2;fw8e2");
        Check.due("twitch 1", x.go(0, 0), 1);
        Check.due("1 says yes", x.chance(1), 800000);
        x.undo();
        Check.due("twitch 0", x.go(1, 0), 0);
        Check.due("0 says no", x.chance(1), 200000);
    }

    // "the latest TWITCH there of each FORK"
    private static void chanceOfTheLatest() {
        HeathForks x = Check.heath("sw2h1a9;vc1d9;fw10e1;fw10e3;fc1e4");
        x.go(0, 0);
        x.go(1, 0);
        x.go(2, 2);
        Check.due("two say yes", x.chance(1), 63 * 1000000 / (63 + 3));
        Check.due("one says no in 0", x.chance(0), 400000);
        x.go(0, 2);
        x.season();
        x.go(0, 0);
        Check.due("one says no now", x.chance(1), 7 * 1000000 / (7 + 27));
        Check.due("two say no in 0", x.chance(0), 4 * 1000000 / (4 + 54));
        x.undo();
        Check.due("undone, it says yes", x.chance(1), 63 * 1000000 / (63 + 3));
    }

    // "both together 0: NONE"
    private static void chanceOfBothNought() {
        HeathForks x = Check.heath("sw2h1;vc1d9;fw9;fw8");
        x.go(0, 0);
        Check.due("surely", x.chance(1), 1000000);
        x.go(1, 0);
        Check.due("both 0", x.chance(1), NONE);
        x.undo();
        x.undo();
        x.go(1, 0);
        Check.due("surely not", x.chance(1), 0);
    }

    // "in a CELL without WATER and IRON", "NONE: no such CELL, it has WATER or IRON"
    private static void wishersOnlyWithout() {
        HeathForks x = Check.heath("sw5h1;v;ic1;vc2;ic2;fx0;fx1;fx2;fx3;fx4;f");
        int[] dues = {NONE, NONE, NONE, 8, 16};
        for (int cell = -2; cell <= 7; cell++) {
            Check.due("wishers(" + cell + ")", x.wishers(cell), cell >= 0 && cell < 5 ? dues[cell] : NONE);
        }
        HeathForks deep = Check.heath("sw6h5a9;vc0d60f9:rrrrrddd;f");
        Check.due("water, however deep", deep.wishers(23), NONE);
        HeathForks none = Check.heath("sw6h5;f;fx29;f;f;f;fx29");
        Check.due("none in 0", none.wishers(0), 0);
        Check.due("two in the last", none.wishers(29), 34);
    }

    // "FORKS (bits) that would TWITCH now more than 0"
    private static void wishersNow() {
        HeathForks x = Check.heath("sw2h1;f;f;fc1");
        Check.tell(x, 1, "y:s");
        Check.tell(x, 1, "y:o-2");
        x.law(0);
        Check.due("in season 0", x.wishers(0), 0);
        x.season();
        Check.due("in season 1", x.wishers(0), 7);
        x.law(1);
        Check.due("the third would be with two", x.wishers(0), 4);
        Check.due("nobody would be with two", x.wishers(1), 0);
        x.go(0, 0);
        Check.due("the second would", x.wishers(1), 2);
        x.law(NONE);
        Check.due("without a law", x.wishers(0), 0);
    }

    // "in CELLS with WATER within what it heeds now, less how many are not"
    private static void trueWithinWhatItHeeds() {
        for (int heeds = 8; heeds <= 14; heeds++) {
            HeathForks x = Check.heath("sw2h1a2;vc1d10;fw" + heeds + "x1");
            x.go(0, 0);
            for (int season = 0; season < 4; season++) {
                int depth = 10 + 2 * new int[] {0, 1, 2, 1}[season];
                Check.due("heeds " + heeds + " of " + depth, x.right(0), depth <= heeds ? 1 : -1);
                x.season();
            }
        }
        HeathForks x = Check.heath("sw3h1;vc1d10;fw10x0");
        for (int i = 0; i < 3; i++) {
            x.go(0, 0);
            x.go(0, 2);
        }
        Check.due("three right, three wrong", x.right(0), 0);
        x.go(0, 0);
        Check.due("one more", x.right(0), 1);
        Check.due("no such fork", x.right(1), HIDDEN);
        Check.due("no such fork, -1", x.right(-1), HIDDEN);
        HeathForks full = Check.heath("sw2h1;fx1");
        for (int i = 0; i < 62; i++) {
            full.go(0, i % 2 == 0 ? 0 : 2);
        }
        Check.due("less than nothing", full.right(0), -30);
    }

    // "how many of its TWITCHES in THE BOOK above 0"
    private static void trueOfTwitchesAboveNought() {
        HeathForks x = Check.heath("sw3h1;vc1d10;fw10;fw9");
        Check.due("a twitch of 1", x.go(0, 0), 1);
        Check.due("counts", x.right(0), 1);
        Check.due("a twitch of 0", x.go(1, 0), 0);
        Check.due("does not", x.right(1), 0);
        x.go(0, 0);
        Check.due("0 without water neither", x.right(0), 1);
        Check.tell(x, 1, "y:1");
        x.law(0);
        x.go(1, 0);
        Check.due("1 without water does", x.right(1), -1);
    }

    // "the FORK most TRUE (of several the lowest)"
    private static void bestOfSeveral() {
        Check.due("one", Check.heath("f").best(), 0);
        for (int fork = 0; fork < 6; fork++) {
            HeathForks x = Check.heath("sw3h1;vc1d10;f;f;f;f;f;f");
            Check.due("of all the lowest", x.best(), 0);
            x.go(fork, 0);
            Check.due("the one", x.best(), fork);
            x.go(5, 0);
            Check.due("of several the lowest still", x.best(), fork);
        }
        HeathForks less = Check.heath("sw2h1;fx1;fx1;fx1");
        less.go(0, 0);
        Check.due("not one below 0", less.best(), 1);
        less.go(1, 0);
        Check.due("nor two", less.best(), 2);
        less.go(2, 0);
        Check.due("of all below 0 the lowest", less.best(), 0);
    }

    // "to a CELL with WATER (by VEINS), itself 0", "NONE: no VEIN, no such FORK"
    private static void nearestItself() {
        for (int cell = 0; cell < 30; cell++) {
            HeathForks x = Check.heath("sw6h5;f;fc29;vc" + cell);
            Check.due("from the first to " + cell, x.nearest(0), cell % 6 + cell / 6);
            Check.due("from the last to " + cell, x.nearest(1), 9 - cell % 6 - cell / 6);
            Check.due("nearest(2)", x.nearest(2), NONE);
            Check.due("nearest(-1)", x.nearest(-1), NONE);
        }
        Check.due("no vein", Check.heath("f;i;k").nearest(0), NONE);
    }

    private static void nearestByVeins() {
        HeathForks x = Check.heath("sw6h5a9;vc28d60f9:uuuulll;f");
        Check.due("the nearest of a vein", x.nearest(0), 1);
        Check.due("not the start", x.cell(1, 0), 99);
        x.go(0, 0);
        Check.due("itself", x.nearest(0), 0);
        HeathForks walled = Check.heath("sw3h1;f;fc1g1;vc2");
        Check.due("guilds do not matter", walled.nearest(0), 2);
        HeathForks deep = Check.heath("sw3h1;fw0;vc1d60");
        Check.due("what it heeds does not matter", deep.nearest(0), 1);
    }

    // "CELLS (bits) with two VEINS or more"
    private static void meetsOfTwoOrMore() {
        Check.due("no vein", Check.heath("f").meets(), 0);
        Check.due("one", Check.heath("f;v:rr").meets(), 0);
        Check.due("one that comes twice", Check.heath("f;v:rlrl").meets(), 0);
        Check.due("two in one cell", Check.heath("f;v;v").meets(), 1);
        Check.due("four in one cell", Check.heath("sw6h5;f;vc29;vc29;vc29;vc29").meets(), 1 << 29);
        Check.due("two that cross", Check.heath("sw3h3;f;vc3:rr;vc1:dd").meets(), 16);
        Check.due("two side by side", Check.heath("sw3h3;f;vc0:rr;vc3:rr").meets(), 0);
        Check.due("three, each with another", Check.heath("sw3h1;f;v:r;vc1:r;vc2:l").meets(), 6);
    }

    // "the CELL with the least DEPTH of WATER now (of several the lowest)", "NONE: no VEIN"
    private static void shallowOfSeveral() {
        Check.due("no vein", Check.heath("f;i").shallow(), NONE);
        Check.due("the last cell", Check.heath("sw6h5;f;vc29d60").shallow(), 29);
        Check.due("of several the lowest", Check.heath("f;vc9d5;vc3d5;vc7d5").shallow(), 3);
        Check.due("the least", Check.heath("f;vc9d4;vc3d5;vc7d5").shallow(), 9);
        Check.due("up a vein", Check.heath("f;vc4d10f1:lll").shallow(), 4);
        HeathForks now = Check.heath("sa9;f;vc19d60f9:uuullll;vc1d60f9:rrdddr");
        Check.due("in season 0", now.shallow(), 1);
        now.season();
        now.season();
        Check.due("in season 2", now.shallow(), 1);
        HeathForks far = Check.heath("sa9;f;vc19d60f9:uuul");
        Check.due("60 is less than 69", far.shallow(), 19);
        far.season();
        Check.due("69 is less than 78", far.shallow(), 19);
    }

    // "the CELL with the most TWITCHES above 0 in THE BOOK (of several the lowest)", "NONE: none"
    private static void heapOfSeveral() {
        HeathForks x = Check.heath("sw4h1;v:rrr;fc3");
        Check.due("none", x.heap(), NONE);
        x.go(0, 2);
        Check.due("cell 2", x.heap(), 2);
        x.go(0, 2);
        Check.due("of two the lowest", x.heap(), 1);
        x.go(0, 2);
        Check.due("of three the lowest", x.heap(), 0);
        x.go(0, 0);
        Check.due("the most", x.heap(), 1);
        x.go(0, 0);
        Check.due("of two again the lowest", x.heap(), 1);
        x.go(0, 0);
        x.go(0, 2);
        Check.due("cell 2 thrice", x.heap(), 2);
    }

    private static void heapOfTwitchesAboveNought() {
        HeathForks x = Check.heath("sw3h1;vc2d30;fw30");
        Check.due("a twitch of 0", x.go(0, 0), 0);
        Check.due("is none", x.heap(), NONE);
        Check.due("a twitch of 1", x.go(0, 0), 1);
        Check.due("is one", x.heap(), 2);
        x.go(0, 2);
        x.go(0, 2);
        x.go(0, 0);
        Check.due("many of 0 are none", x.heap(), 2);
        HeathForks great = Check.heath("sw3h1;vc0d1;vc2d30;fc1w30");
        great.go(0, 2);
        great.go(0, 0);
        great.go(0, 0);
        great.go(0, 2);
        great.go(0, 0);
        Check.due("how many, not how great", great.heap(), 2);
    }
}
