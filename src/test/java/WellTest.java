/** Promises 12, 13, 20, 21 and 38 to 41: wells, what they cost, bring and pay. */
public final class WellTest {
    private static final int NONE = HeathForks.NONE;
    private static final String HEATH = "sw3h2a5y2;vc0d10:rr;kc1p3;fc0w40;fc3w40;fc5w5";

    public static void main(String[] args) {
        without();
        costs();
        sinkAndPay();
        brings();
        wetOrNot();
        season();
        cheapestBounds();
        cheapestSets();
        cheapestWithWells();
        richest();
        Check.finish("WellTest");
    }

    private static void without() {
        HeathForks x = new HeathForks();
        Check.due("sink", x.sink(0), NONE);
        Check.due("costs", x.costs(0), NONE);
        Check.due("loses", x.loses(0), NONE);
        Check.due("brings", x.brings(NONE, 0), NONE);
        Check.due("cheapest", x.cheapest(1, 0), NONE);
        Check.due("richest", x.richest(), NONE);
        Check.due("driest", x.driest(), NONE);
        Check.due("season", x.season(), NONE);
    }

    private static void costs() {
        HeathForks x = Check.heath(HEATH);
        int[] dues = {20, 50, 20, 120, 120, 120};
        for (int cell = 0; cell < 6; cell++) {
            Check.due("costs(" + cell + ")", x.costs(cell), dues[cell]);
        }
        x.season();
        Check.due("costs in season 1", x.costs(1), 75);
        Check.due("costs(-1)", x.costs(-1), NONE);
        Check.due("costs(6)", x.costs(6), NONE);
        x.sink(1);
        Check.due("costs with a well", x.costs(1), NONE);
        Check.due("costs changes nothing", x.count(13), 2);
    }

    private static void sinkAndPay() {
        HeathForks x = Check.heath(HEATH);
        x.go(0, 0);
        x.go(0, 2);
        x.go(0, 0);
        x.go(1, 0);
        x.go(1, 3);
        x.go(2, 3);
        x.go(2, 2);
        Check.due("sink(1)", x.sink(1), 50);
        Check.due("pay of 0, once", x.fork(0, 6), 2);
        Check.due("pay of 1", x.fork(1, 6), 2);
        Check.due("no pay of 2, which did not twitch", x.fork(2, 6), 0);
        Check.due("pay of all", x.count(9), 4);
        Check.due("cost of all", x.count(10), 50);
        Check.due("sink(1) again", x.sink(1), NONE);
        Check.due("sink(6)", x.sink(6), NONE);
        Check.due("sink(-1)", x.sink(-1), NONE);
        Check.due("refused ones are no acts", x.count(13), 8);
        Check.due("sink(0), where 0 twitched", x.sink(0), 20);
        Check.due("its pay", x.fork(0, 6), 4);
        Check.due("sink(2), where nobody twitched", x.sink(2), 20);
        Check.due("nobody's pay", x.count(9), 6);
        Check.due("sink(4), dry", x.sink(4), 120);
        Check.due("no pay of a dry one", x.count(9), 6);
        Check.due("wells", x.count(8), 1 + 2 + 4 + 16);
        Check.due("cost of all wells", x.count(10), 210);
    }

    private static void brings() {
        HeathForks x = Check.heath(HEATH);
        Check.due("all without wells", x.brings(NONE, 0), 0);
        Check.due("driest without wells", x.driest(), 0);
        Check.due("no well", x.brings(1, 0), NONE);
        x.sink(1);
        int[] first = {9, 0, 0, 0};
        for (int season = 0; season < 4; season++) {
            Check.due("brings(1, " + season + ")", x.brings(1, season), first[season]);
        }
        Check.due("driest of one", x.driest(), 1);
        Check.due("loses(2)", x.loses(2), 1);
        Check.due("loses(3)", x.loses(3), 0);
        Check.due("loses(4)", x.loses(4), 1);
        x.season();
        x.season();
        Check.due("sink(0) in season 2", x.sink(0), 40);
        int[] nought = {8, 8, 7, 8};
        int[] one = {8, 0, 0, 0};
        for (int season = 0; season < 4; season++) {
            Check.due("brings(0, " + season + ")", x.brings(0, season), nought[season]);
            Check.due("brings(1, " + season + ") then", x.brings(1, season), one[season]);
            Check.due("all in " + season, x.brings(NONE, season), nought[season] + one[season]);
        }
        Check.due("driest", x.driest(), 2);
        Check.due("loses(2) in season 2", x.loses(2), 0);
        Check.due("loses(3) in season 2", x.loses(3), 1);
        Check.due("loses(0), a well", x.loses(0), NONE);
        Check.due("loses(6)", x.loses(6), NONE);
        Check.due("loses(-1)", x.loses(-1), NONE);
        Check.due("brings(0, 4)", x.brings(0, 4), NONE);
        Check.due("brings(0, -1)", x.brings(0, -1), NONE);
        Check.due("brings(-1, 4)", x.brings(NONE, 4), NONE);
        Check.due("brings(-2, 0)", x.brings(-2, 0), NONE);
        Check.due("brings(6, 0)", x.brings(6, 0), NONE);
        x.sink(4);
        Check.due("a dry well takes, too", x.brings(1, 0), 7);
        Check.due("a dry well brings nothing", x.brings(4, 0), 0);
        Check.due("not beyond a row's end", Check.heath("sw3h2;vc2d10;vc3d10;f").loses(3), 0);
    }

    private static void wetOrNot() {
        HeathForks x = Check.heath("sw3h1a1y1;vd60;fc1w60;vc2d59f0");
        x.go(0, 2);
        Check.due("twitch at 60", x.book(0, 2), 1);
        Check.due("sink at 60", x.sink(0), 60);
        Check.due("it is wet: pay", x.fork(0, 6), 6);
        Check.due("it brings", x.brings(0, 0), 4);
        x.undo();
        x.season();
        Check.due("sink at 61", x.sink(0), 60);
        Check.due("it is dry: no pay", x.fork(0, 6), 0);
        Check.due("it brings in season 0", x.brings(0, 0), 4);
        Check.due("it brings nothing in season 1", x.brings(0, 1), 0);
        Check.due("sunk at 60 in season 1", x.sink(2), 60);
        Check.due("it brings then", x.brings(2, 1), 4);
        Check.due("it brings in season 0", x.brings(2, 0), 5);
        HeathForks y = Check.heath("sw5h2;vc2d1;f");
        for (int cell = 0; cell < 10; cell++) {
            y.sink(cell);
        }
        Check.due("ten less three", y.brings(2, 0), 7);
        HeathForks z = Check.heath("sw3h3;vc4d60;f");
        for (int cell = 1; cell < 9; cell++) {
            z.sink(cell);
        }
        Check.due("as deep as can be, with wells all round", z.brings(4, 0), 0);
    }

    private static void season() {
        HeathForks x = Check.heath("f");
        for (int i = 1; i <= 9; i++) {
            Check.due("season " + i, x.season(), i % 4);
            Check.due("count(7) " + i, x.count(7), i % 4);
        }
        Check.due("seasons are acts", x.count(13), 9);
    }

    private static void cheapestBounds() {
        HeathForks x = Check.heath("sw6h1a0;vd10:rrrrr;f");
        Check.due("cheapest(0, 0)", x.cheapest(0, 0), NONE);
        Check.due("cheapest(41, 0)", x.cheapest(41, 0), NONE);
        Check.due("cheapest(1, 2)", x.cheapest(1, 2), NONE);
        Check.due("cheapest(1, -1)", x.cheapest(1, -1), NONE);
        Check.due("cheapest(40, 0)", x.cheapest(40, 0), NONE);
        Check.due("cheapest(40, 1)", x.cheapest(40, 1), NONE);
        HeathForks dry = Check.heath("sa9;vd43;f");
        Check.due("61 in season 2", dry.cheapest(1, 0), NONE);
        HeathForks wet = Check.heath("sa9;vd42;f");
        Check.due("60 in season 2", wet.cheapest(4, 0), 1);
        Check.due("its cost", wet.cheapest(4, 1), 60);
        Check.due("too much", wet.cheapest(5, 1), NONE);
    }

    private static void cheapestSets() {
        HeathForks x = Check.heath("sw6h1a0;vd10:rrrrr;f");
        int[][] dues = {{1, 1, 10}, {9, 1, 10}, {10, 3, 20}, {16, 3, 20}, {17, 5, 20}, {18, 5, 20}, {19, 7, 30},
            {22, 7, 30}, {23, 7, 30}, {24, 11, 30}, {25, 11, 30}, {26, 21, 30}, {27, 21, 30}};
        for (int[] due : dues) {
            Check.due("cheapest(" + due[0] + ", 0)", x.cheapest(due[0], 0), due[1]);
            Check.due("cheapest(" + due[0] + ", 1)", x.cheapest(due[0], 1), due[2]);
        }
        Check.due("cheapest(28, 0)", x.cheapest(28, 0), NONE);
        Check.due("nothing was sunk", x.count(8), 0);
        HeathForks few = Check.heath("sw6h1a0;vc0d10;vc2d10;vc5d4;kc5p4;f");
        Check.due("of several the fewest", few.cheapest(10, 0), 32);
        Check.due("at the same cost", few.cheapest(10, 1), 20);
        HeathForks cheap = Check.heath("sw6h1a0;vc0d10;vc2d10;vc5d4;kc5p9;f");
        Check.due("the cheaper of more", cheap.cheapest(10, 0), 5);
        Check.due("at its cost", cheap.cheapest(10, 1), 20);
        HeathForks seasons = Check.heath("sw6h1a3;vc0d10;f");
        seasons.season();
        Check.due("cost of season 2", seasons.cheapest(8, 1), 16);
    }

    private static void cheapestWithWells() {
        HeathForks x = Check.heath("sw6h1a0;vd10:rrrrr;f");
        x.sink(1);
        Check.due("they do already", x.cheapest(9, 0), 0);
        Check.due("at no cost", x.cheapest(9, 1), 0);
        Check.due("one more", x.cheapest(10, 0), 1);
        Check.due("one more, apart", x.cheapest(17, 0), 8);
        Check.due("three more", x.cheapest(27, 0), 8 + 32);
        Check.due("four wells", x.cheapest(32, 0), 1 + 4 + 16);
        Check.due("four wells, apart", x.cheapest(33, 0), 1 + 8 + 32);
        HeathForks most = Check.heath("sw6h2a0;vd1:rrrrr;vc6d1:rrrrr;f");
        most.sink(0);
        Check.due("cheapest(40, 0)", most.cheapest(40, 0), 4 + 16 + 128);
        Check.due("cheapest(40, 1)", most.cheapest(40, 1), 3);
        Check.due("cheapest(41, 1)", most.cheapest(41, 1), NONE);
        HeathForks y = Check.heath("sw6h1a2;vd10:r;f");
        y.sink(0);
        Check.due("too shallow in season 2", y.cheapest(1, 0), 2);
        Check.due("it takes, all the same", y.cheapest(9, 0), NONE);
        Check.due("what is left", y.cheapest(8, 0), 2);
    }

    private static void richest() {
        HeathForks x = Check.heath("sw3h1;vd20:rr;kc0p1;f;fc1;fc1");
        Check.due("no pay", x.richest(), NONE);
        x.go(1, 0);
        x.go(2, 0);
        x.sink(2);
        Check.due("of several the lowest", x.richest(), 1);
        Check.due("a pay of 1", x.fork(2, 6), 1);
        x.go(2, 2);
        x.sink(1);
        Check.due("the one with more", x.richest(), 2);
        Check.due("its pay", x.fork(2, 6), 3);
    }
}
