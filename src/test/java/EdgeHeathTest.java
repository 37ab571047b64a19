/** The edges that part 2 of the document and promises 6 to 13 and 38 to 41 name: one method for each sentence. */
public final class EdgeHeathTest {
    private static final int NONE = HeathForks.NONE;
    private static final int HIDDEN = HeathForks.HIDDEN;

    public static void main(String[] args) {
        withoutHeath();
        seasonsGoRound();
        depthBySeasons();
        depth99AtMost();
        leastOfAllVeins();
        veinThatComesTwice();
        twitchOfWater();
        twitchOfIron();
        twitchOfWish();
        twitchIsTheGreatest();
        twitchHeldWithin();
        numbersOfLawsHeldWithin();
        divisions();
        worthOfClauses();
        lettersOfLaws();
        othersInTheCell();
        stepsOffTheHeath();
        stepsOverTheOtherGuildsLine();
        costOfWells();
        deepestWells();
        bringsByDepth();
        bringsByNeighbours();
        bringsNotBeyondRows();
        payByCost();
        payByNumber();
        payEachOnce();
        payOfTwitchesAboveNought();
        payByTheBook();
        costsAndLoses();
        driestOfSeveral();
        richestOfSeveral();
        whatOfCells();
        whatOfForks();
        Check.finish("EdgeHeathTest");
    }

    // "No HEATH.": what all calls answer then
    private static void withoutHeath() {
        HeathForks x = new HeathForks();
        Check.tell(x, 1, "y:1");
        Check.tell(x, 2, "0r");
        x.law(0);
        int[] nones = {x.rule(0), x.cell(0, 0), x.twitch(0, 0), x.go(0, 0), x.sink(0), x.season(), x.stroll(1, 1), x.undo(),
            x.book(0, 0), x.perform(0), x.brings(0, 0), x.brings(NONE, 0), x.cheapest(1, 0), x.cheapest(1, 1),
            x.reach(0, 0), x.stuck(), x.trail(0, 0), x.trail(1, 1), x.hear(0, 0, true), x.fits(2, NONE), x.fits(2, 0),
            x.sure(2), x.ask(2), x.wrong(2), x.chance(0), x.wishers(0), x.best(), x.nearest(0), x.meets(), x.shallow(),
            x.heap(), x.costs(0), x.loses(0), x.richest(), x.driest(), x.image(), x.back()};
        for (int i = 0; i < nones.length; i++) {
            Check.due("call " + i + " without heath", nones[i], NONE);
        }
        Check.due("run without heath", x.run(0, 0), HIDDEN);
        Check.due("twitches of a run without heath", x.run(0, 1), HIDDEN);
        Check.due("right without heath", x.right(0), HIDDEN);
        Check.due("fork without heath", Check.noSuchFork(x, 0, 0), true);
        Check.due("step without heath", x.step(0, 0, 0), 0);
        int[] counts = {0, 0, 0, 1, 1, 0, 0, 0, 0, 0, 0, 0, 0, 0};
        for (int what = 0; what < 14; what++) {
            Check.due("count(" + what + ") without heath", x.count(what), counts[what]);
        }
    }

    // "SEASON 0 .. 3 (0 at first), and so on from 0."
    private static void seasonsGoRound() {
        HeathForks x = Check.heath("f");
        Check.due("at first", x.count(7), 0);
        for (int i = 1; i <= 50; i++) {
            Check.due("season " + i, x.season(), i % 4);
        }
        for (int i = 49; i >= 10; i--) {
            x.undo();
            Check.due("season back to " + i, x.count(7), i % 4);
        }
        Check.tell(x, 0, "f");
        Check.due("0 again with a heath", x.count(7), 0);
    }

    private static HeathForks inSeason(String heath, int season) {
        HeathForks x = Check.heath(heath);
        for (int i = 0; i < season; i++) {
            x.season();
        }
        return x;
    }

    // "in SEASONS 1 and 3 a, in 2 twice a more"
    private static void depthBySeasons() {
        int[] times = {0, 1, 2, 1};
        for (int deeper = 0; deeper <= 9; deeper++) {
            for (int season = 0; season < 4; season++) {
                HeathForks x = inSeason("sa" + deeper + ";vd1f3:r;f", season);
                Check.due("depth", x.cell(0, 0), 1 + deeper * times[season]);
                Check.due("depth behind a fall", x.cell(1, 0), 4 + deeper * times[season]);
                Check.due("no water", x.cell(2, 0), NONE);
            }
        }
    }

    // "99 at most"
    private static void depth99AtMost() {
        for (int deeper = 0; deeper <= 9; deeper++) {
            for (int season = 0; season < 4; season++) {
                HeathForks x = inSeason("sw6h5a" + deeper + ";vd60f9:rrrrrddd;f", season);
                for (int i = 0; i <= 8; i++) {
                    int cell = i <= 5 ? i : 5 + 6 * (i - 5);
                    int depth = 60 + 9 * i + deeper * new int[] {0, 1, 2, 1}[season];
                    Check.due("depth " + depth, x.cell(cell, 0), Math.min(99, depth));
                }
            }
        }
        HeathForks x = inSeason("sa1;vd60f9:rrrr;f", 0);
        Check.tell(x, 1, "y:d");
        x.law(0);
        Check.due("96, by the law", x.twitch(0, 4), 96);
        HeathForks deep = inSeason("sa9;vd54f9:rrrr;f", 1);
        Check.due("99 itself", deep.cell(4, 0), 99);
        HeathForks one = inSeason("sa9;vd55f9:rrrr;f", 1);
        Check.due("one more is 99", one.cell(4, 0), 99);
        HeathForks less = inSeason("sa9;vd53f9:rrrr;f", 1);
        Check.due("one less is 98", less.cell(4, 0), 98);
        HeathForks all = inSeason("sw2h1a9;vc1d60f9:lrlrlrlr;f", 2);
        Check.due("99 in no season here", all.cell(0, 0), 87);
    }

    // "of all VEINS that have it the least"
    private static void leastOfAllVeins() {
        HeathForks x = Check.heath("sw3h1;vd9f9:rr;vc2d10f9:ll;vc1d19;vc1d18f1;f");
        int[] dues = {9, 18, 10};
        for (int cell = 0; cell < 3; cell++) {
            Check.due("the least in " + cell, x.cell(cell, 0), dues[cell]);
        }
        HeathForks y = Check.heath("sw3h1;vc1d17;vd9f9:rr;vc2d10f9:ll;f");
        Check.due("the least by one", y.cell(1, 0), 17);
        HeathForks z = Check.heath("sw3h1;vc1d30;vc1d30;f");
        Check.due("the least of two as deep", z.cell(1, 0), 30);
    }

    // "of one that comes there twice the first"
    private static void veinThatComesTwice() {
        HeathForks x = Check.heath("sw2h2;vd10f5:rdlurdlu;f");
        int[] dues = {10, 15, 25, 20};
        for (int cell = 0; cell < 4; cell++) {
            Check.due("the first in " + cell, x.cell(cell, 0), dues[cell]);
        }
        Check.due("it does not meet itself", x.meets(), 0);
    }

    // "DEPTH to which it heeds WATER less DEPTH and 1 (with WATER) .. 0 at least"
    private static void twitchOfWater() {
        for (int heeds = 0; heeds <= 60; heeds++) {
            for (int depth = 1; depth <= 60; depth += 59) {
                HeathForks x = Check.heath("vd" + depth + ";fw" + heeds);
                Check.due("heeds " + heeds + " of " + depth, x.twitch(0, 0), Math.max(0, heeds - depth + 1));
                Check.due("without water", x.twitch(0, 1), 0);
            }
        }
        HeathForks x = Check.heath("vd20;fw20;fw19;fw21");
        Check.due("just so deep", x.twitch(0, 0), 1);
        Check.due("just too deep", x.twitch(1, 0), 0);
        Check.due("one less deep", x.twitch(2, 0), 2);
    }

    // "10, if there is IRON no deeper than it heeds (0: none)"
    private static void twitchOfIron() {
        for (int heeds = 0; heeds <= 9; heeds++) {
            for (int depth = 1; depth <= 9; depth++) {
                HeathForks x = Check.heath("id" + depth + ";fi" + heeds);
                Check.due("heeds iron " + heeds + " of " + depth, x.twitch(0, 0), depth <= heeds ? 10 : 0);
                Check.due("without iron", x.twitch(0, 1), 0);
            }
        }
    }

    // "5, if it WISHES that CELL"
    private static void twitchOfWish() {
        HeathForks x = Check.heath("sw6h5;fx0;fx29;fx30;f");
        int[] firsts = {5, 0, 0, 0};
        int[] lasts = {0, 5, 0, 0};
        for (int fork = 0; fork < 4; fork++) {
            Check.due("wish in the first cell", x.twitch(fork, 0), firsts[fork]);
            Check.due("wish in the last cell", x.twitch(fork, 29), lasts[fork]);
        }
    }

    // "the greatest of"
    private static void twitchIsTheGreatest() {
        for (int heeds = 20; heeds <= 40; heeds++) {
            HeathForks x = Check.heath("vd25;i;fw" + heeds + "i9x0;fw" + heeds + "x0;fw" + heeds + "i9;fw" + heeds);
            int water = Math.max(0, heeds - 24);
            Check.due("water, iron, wish", x.twitch(0, 0), Math.max(water, 10));
            Check.due("water, wish", x.twitch(1, 0), Math.max(water, 5));
            Check.due("water, iron", x.twitch(2, 0), Math.max(water, 10));
            Check.due("water", x.twitch(3, 0), water);
        }
    }

    private static int worth(String law) {
        HeathForks x = Check.heath("f");
        Check.due("law " + law, Check.tell(x, 1, law), 0);
        x.law(0);
        return x.twitch(0, 0);
    }

    // "held within 0 .. 99"
    private static void twitchHeldWithin() {
        int[] numbers = {0, 1, 2, 50, 98, 99, 100, 101, 999, 9999};
        for (int number : numbers) {
            Check.due("worth " + number, worth("y:" + number), Math.min(99, number));
            Check.due("worth of less than 0", worth("y:0-" + number), 0);
        }
        Check.due("worth of a million", worth("y:9999*9999"), 99);
        Check.due("worth of less than a million", worth("y:[0-9999]*9999"), 0);
        HeathForks x = Check.heath("f");
        Check.tell(x, 1, "y:9999");
        x.law(0);
        Check.due("99 by going", x.go(0, 0), 99);
        Check.due("99 in the book", x.book(0, 2), 99);
    }

    private static void holds(String condition, boolean want) {
        Check.due(condition, worth("y:" + condition + "?7;y:8"), want ? 7 : 8);
    }

    // "Behind each sign numbers are within -1,000,000 .. 1,000,000"
    private static void numbersOfLawsHeldWithin() {
        holds("9999*9999=1000*1000", true);
        holds("999*1001<1000*1000", true);
        holds("999*1001+1=1000*1000", true);
        holds("999*1001+2=1000*1000", true);
        holds("1000*1000+1=1000*1000", true);
        holds("1000*1000+9999-1<1000*1000", true);
        holds("1000*1000+1-1=999*1001", true);
        holds("[0-9999]*9999=0-1000*1000", true);
        holds("0-999*1001>0-1000*1000", true);
        holds("0-999*1001-1=0-1000*1000", true);
        holds("0-999*1001-2=0-1000*1000", true);
        holds("0-1000*1000-1=0-1000*1000", true);
        holds("0-1000*1000-9999+1>0-1000*1000", true);
        holds("9999*9999/9999=100", true);
        holds("9999*9999/9999*9999=100*9999", true);
        holds("[0-9999]*[0-9999]=1000*1000", true);
        holds("9999*[0-9999]/9999=0-100", true);
        holds("1000*1000*9999*9999*9999=1000*1000", true);
        holds("1000*1000*[0-1]*9999*9999=0-1000*1000", true);
        holds("[1000*1000]-[0-1000*1000]=1000*1000", true);
        Check.due("cut behind each sign, not at the end", worth("y:9999*9999-999*1000-999"), 1);
    }

    // "/ cuts towards 0, by 0 gives 0"
    private static void divisions() {
        holds("7/2=3", true);
        holds("[0-7]/2=0-3", true);
        holds("7/[0-2]=0-3", true);
        holds("[0-7]/[0-2]=3", true);
        holds("1/2=0", true);
        holds("[0-1]/2=0", true);
        holds("[0-1]/2<0", false);
        holds("5/0=0", true);
        holds("0/0=0", true);
        holds("[0-5]/0=0", true);
        holds("5/[d-d]=0", true);
        holds("5/0+1=1", true);
        holds("5/0*3=0", true);
        holds("100/7/2=7", true);
        holds("100*7/2=350", true);
        holds("100/7*7=98", true);
    }

    // "the SUM of the first CLAUSE whose CONDITION holds (or has none), 0 without"
    private static void worthOfClauses() {
        Check.due("the first", worth("y:1=1?3;y:1=1?4;y:5"), 3);
        Check.due("the second", worth("y:1=2?3;y:1=1?4;y:5"), 4);
        Check.due("the third", worth("y:1=2?3;y:1=2?4;y:5"), 5);
        Check.due("without", worth("y:1=2?3;y:1=2?4"), 0);
        Check.due("one without", worth("y:1=2?99"), 0);
        Check.due("none behind one that has none", worth("y:5;y:1=1?6"), 5);
        Check.due("and as well", worth("y:1=2&1=1?3;y:9"), 9);
        Check.due("and as well, the other", worth("y:1=1&1=2?3;y:9"), 9);
        Check.due("both", worth("y:1=1&1=1?3;y:9"), 3);
        Check.due("neither", worth("y:1=2&1=2?3;y:9"), 9);
        Check.due("or", worth("y:1=2|1=1?3;y:9"), 3);
        Check.due("or, the other", worth("y:1=1|1=2?3;y:9"), 3);
        Check.due("or, neither", worth("y:1=2|1=2?3;y:9"), 9);
        Check.due("& is closer than |", worth("y:1=1|1=1&1=2?3;y:9"), 3);
        Check.due("& is closer than |, behind", worth("y:1=2&1=2|1=1?3;y:9"), 3);
        Check.due("brackets are closer", worth("y:(1=1|1=1)&1=2?3;y:9"), 9);
        Check.due("! is of one unit", worth("y:!1=1&1=2|1=1?3;y:9"), 3);
        Check.due("! of brackets", worth("y:!(1=1&1=2)?3;y:9"), 3);
        holds("1=1&1<2&2>1", true);
        holds("1<2&1=1", true);
        holds("2>1&1<2", true);
        holds("!1=2&2>1", true);
        holds("2>1&!1=2&1<2", true);
        holds("!(1<2)|2>1", true);
        holds("1<1", false);
        holds("1>1", false);
        holds("1=1", true);
        holds("0-1<0", true);
        holds("0>0-1", true);
        holds("!!!!!!1=1", true);
        holds("!!!!!1=1", false);
    }

    // "d DEPTH (99 without WATER) .. i IRON's DEPTH (99 without), x WISHED (1, 0), s SEASON"
    private static void lettersOfLaws() {
        String heath = "sw3h1a9;vd60;ic1d9;fw0x0;fw60";
        HeathForks x = Check.heath(heath);
        String[] laws = {"y:d", "y:i", "y:x+1", "y:s+1"};
        int[][] dues = {{60, 99, 99}, {99, 9, 99}, {2, 1, 1}, {1, 1, 1}};
        for (int law = 0; law < 4; law++) {
            Check.tell(x, 1, laws[law]);
            x.law(law);
            for (int cell = 0; cell < 3; cell++) {
                Check.due(laws[law] + " in " + cell, x.twitch(0, cell), dues[law][cell]);
            }
        }
        for (int season = 1; season <= 4; season++) {
            x.season();
            Check.due("s in season " + season, x.twitch(0, 0), season % 4 + 1);
        }
        HeathForks y = Check.heath(heath);
        Check.tell(y, 1, "y:m");
        y.law(0);
        Check.due("m of 0", y.twitch(0, 0), 0);
        Check.due("m of 60", y.twitch(1, 0), 60);
        Check.tell(y, 1, "y:100-d");
        y.law(1);
        Check.due("d is 99 without water", y.twitch(0, 1), 1);
    }

    // "o how many FORKS are in that CELL, itself, too"
    private static void othersInTheCell() {
        HeathForks x = Check.heath("sw3h1;f;f;fg1;fc1g1;fg1;fc1");
        Check.tell(x, 1, "y:o");
        x.law(0);
        int[][] dues = {{4, 3, 1}, {4, 3, 1}, {4, 3, 1}, {5, 2, 1}, {4, 3, 1}, {5, 2, 1}};
        for (int fork = 0; fork < 6; fork++) {
            for (int cell = 0; cell < 3; cell++) {
                Check.due("o of " + fork + " in " + cell, x.twitch(fork, cell), dues[fork][cell]);
            }
        }
        Check.due("alone", Check.heath("f").twitch(0, 0), 0);
        HeathForks y = Check.heath("sw3h1;f;f;fc1");
        Check.tell(y, 1, "y:o");
        y.law(0);
        Check.due("it is in it then", y.go(0, 0), 2);
        Check.due("the next", y.go(1, 0), 3);
        Check.due("one goes on", y.go(2, 0), 1);
        Check.due("one follows", y.go(0, 0), 2);
        Check.due("those who are left", y.twitch(1, 1), 1);
    }

    // "if that is of the HEATH"
    private static void stepsOffTheHeath() {
        for (int width = 1; width <= 6; width++) {
            for (int height = 1; height <= 5; height++) {
                for (int cell = 0; cell < width * height; cell++) {
                    for (int way = 0; way < 4; way++) {
                        int column = cell % width + new int[] {1, 0, -1, 0}[way];
                        int row = cell / width + new int[] {0, 1, 0, -1}[way];
                        boolean can = column >= 0 && column < width && row >= 0 && row < height;
                        HeathForks x = Check.heath("sw" + width + "h" + height + ";fc" + cell);
                        Check.due("step " + way + " from " + cell, x.go(0, way), can ? 0 : NONE);
                        Check.due("where it is then", x.fork(0, 0), can ? row * width + column : cell);
                        Check.due("acts", x.count(13), can ? 1 : 0);
                        Check.due("book", x.count(12), can ? 1 : 0);
                    }
                }
            }
        }
    }

    // "no FORK of the other GUILD was in it (where each is at first, it was)"
    private static void stepsOverTheOtherGuildsLine() {
        HeathForks x = Check.heath("sw3h3;fc4;fc5g1;fc7g1;fc3;fc1");
        int[] dues = {NONE, NONE, 0, 0};
        for (int way = 0; way < 4; way++) {
            Check.due("way " + way, x.go(0, way), dues[way]);
            if (dues[way] == 0) {
                x.undo();
            }
        }
        Check.due("the other guild goes on", x.go(1, 3), 0);
        Check.due("where it was no one of the first goes", x.go(0, 0), NONE);
        Check.due("undone, it was not there", x.undo(), 0);
        Check.due("where it began it still was", x.go(0, 0), NONE);
        HeathForks y = Check.heath("sw3h1;f;fc2g1");
        y.go(0, 0);
        y.go(0, 2);
        Check.due("a line stays though nobody is in it", y.go(1, 2), NONE);
        Check.due("one's own line is free", y.go(0, 0), 0);
        y.undo();
        y.undo();
        Check.due("still the line", y.go(1, 2), NONE);
        y.undo();
        Check.due("undone it is free", y.go(1, 2), 0);
    }

    // "COST: DEPTH .. times y and what ROCK there costs more"
    private static void costOfWells() {
        for (int foot = 1; foot <= 9; foot++) {
            for (int rock = 0; rock <= 9; rock++) {
                HeathForks x = Check.heath("sy" + foot + ";vd7;" + (rock == 0 ? "" : "kp" + rock + ";") + "f");
                Check.due("costs", x.costs(0), 7 * (foot + rock));
                Check.due("cost", x.sink(0), 7 * (foot + rock));
                Check.due("cost of all", x.count(10), 7 * (foot + rock));
                Check.due("sunk to", x.cell(0, 4), 7);
                Check.due("another", x.sink(1), 60 * foot);
                Check.due("cost of both", x.count(10), 7 * (foot + rock) + 60 * foot);
                x.undo();
                Check.due("cost of one", x.count(10), 7 * (foot + rock));
                x.undo();
                Check.due("no cost", x.count(10), 0);
                Check.due("not sunk", x.cell(0, 4), 0);
            }
        }
    }

    // "(60 without WATER, 60 at most)", "it is WET, if there is WATER within 60 then"
    private static void deepestWells() {
        for (int depth = 50; depth <= 60; depth++) {
            for (int season = 0; season < 4; season++) {
                HeathForks x = Check.heath("sw2h1a5y1;vd" + depth + ";fc1x0w0");
                x.go(0, 2);
                for (int i = 0; i < season; i++) {
                    x.season();
                }
                int now = depth + 5 * new int[] {0, 1, 2, 1}[season];
                Check.due("costs at " + now, x.costs(0), Math.min(60, now));
                Check.due("cost at " + now, x.sink(0), Math.min(60, now));
                Check.due("sunk at " + now, x.cell(0, 4), Math.min(60, now));
                Check.due("pay at " + now, x.fork(0, 6), now <= 60 ? now / 10 : 0);
                Check.due("brings at " + now, x.brings(0, season), now <= 60 ? 10 - now / 10 : 0);
            }
        }
        HeathForks dry = Check.heath("sw2h1;fc1x0");
        dry.go(0, 2);
        Check.due("without water", dry.sink(0), 60);
        Check.due("it is not wet", dry.fork(0, 6), 0);
        for (int season = 0; season < 4; season++) {
            Check.due("it brings nothing", dry.brings(0, season), 0);
        }
    }

    // "0, if .. it is deeper than it was sunk to; else 10 less DEPTH by 10, cut"
    private static void bringsByDepth() {
        for (int depth = 1; depth <= 60; depth++) {
            HeathForks x = Check.heath("sw1h1a1;vd" + depth + ";f");
            x.season();
            x.sink(0);
            int sunk = Math.min(60, depth + 1);
            int[] depths = {depth, depth + 1, depth + 2, depth + 1};
            int all = 0;
            for (int season = 0; season < 4; season++) {
                int due = depths[season] > sunk ? 0 : 10 - depths[season] / 10;
                Check.due("brings at " + depths[season] + " of " + sunk, x.brings(0, season), due);
                Check.due("all at " + depths[season], x.brings(NONE, season), due);
                all += due;
            }
            Check.due("something of it", all > 0, true);
        }
    }

    // "less one for each other WELL in a CELL beside it (0 at least)"
    private static void bringsByNeighbours() {
        for (int depth = 10; depth <= 60; depth += 10) {
            for (int bits = 0; bits < 16; bits++) {
                HeathForks x = Check.heath("sw3h3;vc4d" + depth + ";f");
                x.sink(4);
                int[] beside = {1, 3, 5, 7};
                for (int i = 0; i < 4; i++) {
                    if ((bits >> i & 1) == 1) {
                        Check.due("loses", x.loses(beside[i]), x.brings(4, 0) > 0 ? 1 : 0);
                        x.sink(beside[i]);
                    }
                }
                x.sink(0);
                x.sink(8);
                int due = Math.max(0, 10 - depth / 10 - Integer.bitCount(bits));
                Check.due("brings among others", x.brings(4, 0), due);
                Check.due("all of them", x.brings(NONE, 0), due);
            }
        }
        HeathForks x = Check.heath("sw3h3a0;vc4d60;f");
        for (int cell = 0; cell < 9; cell++) {
            x.sink(cell);
        }
        Check.due("0 at least", x.brings(4, 2), 0);
    }

    private static void bringsNotBeyondRows() {
        HeathForks x = Check.heath("sw3h2a0;vc2d10;vc3d10;f");
        x.sink(2);
        Check.due("3 is not beside 2", x.loses(3), 0);
        x.sink(3);
        Check.due("nothing is taken", x.brings(NONE, 0), 18);
        Check.due("5 is beside 2", x.loses(5), 1);
        Check.due("4 is beside 3", x.loses(4), 1);
        Check.due("1 is beside 2", x.loses(1), 1);
        Check.due("0 is beside 3", x.loses(0), 1);
    }

    // "its COST by 10, cut, is shared"
    private static void payByCost() {
        for (int depth = 1; depth <= 60; depth++) {
            HeathForks x = Check.heath("sw2h1;vd" + depth + ";fc1x0");
            x.go(0, 2);
            x.sink(0);
            Check.due("pay of " + depth, x.fork(0, 6), depth / 10);
            Check.due("pay of all", x.count(9), depth / 10);
            Check.due("richest", x.richest(), depth < 10 ? NONE : 0);
            x.undo();
            Check.due("no pay", x.fork(0, 6), 0);
            Check.due("no pay of all", x.count(9), 0);
        }
    }

    // "each has it by their number, cut"
    private static void payByNumber() {
        for (int many = 1; many <= 6; many++) {
            for (int depth = 10; depth <= 60; depth += 10) {
                StringBuilder text = new StringBuilder("sw2h1;vd" + depth);
                for (int i = 0; i < many; i++) {
                    text.append(";fc1x0");
                }
                HeathForks x = Check.heath(text.toString());
                for (int fork = 0; fork < many; fork++) {
                    x.go(fork, 2);
                }
                x.sink(0);
                for (int fork = 0; fork < many; fork++) {
                    Check.due(depth + " for " + many, x.fork(fork, 6), depth / 10 / many);
                }
                Check.due("of all", x.count(9), depth / 10 / many * many);
            }
        }
    }

    // "each once"
    private static void payEachOnce() {
        HeathForks x = Check.heath("sw2h1;vd60;fc1w60;fc1w60");
        for (int i = 0; i < 3; i++) {
            x.go(0, 2);
            x.go(0, 0);
        }
        x.go(1, 2);
        x.sink(0);
        Check.due("one who twitched thrice", x.fork(0, 6), 3);
        Check.due("one who twitched once", x.fork(1, 6), 3);
    }

    // "(above 0 ..)"
    private static void payOfTwitchesAboveNought() {
        HeathForks x = Check.heath("sw2h1;vd40;fc1w39;fc1w40;fc1w41");
        for (int fork = 0; fork < 3; fork++) {
            Check.due("twitch of " + fork, x.go(fork, 2), fork);
        }
        x.sink(0);
        int[] dues = {0, 2, 2};
        for (int fork = 0; fork < 3; fork++) {
            Check.due("pay of " + fork, x.fork(fork, 6), dues[fork]);
        }
        HeathForks there = Check.heath("sw2h1;vd40;fw60");
        there.sink(0);
        Check.due("being there is no twitch by the book", there.fork(0, 6), 0);
        HeathForks once = Check.heath("sw2h1a9;vd40;fc1w45");
        once.go(0, 2);
        once.go(0, 0);
        once.season();
        Check.due("later it does not twitch", once.go(0, 2), 0);
        once.sink(0);
        Check.due("it twitched once", once.fork(0, 6), 4);
    }

    // "by THE BOOK .. (the latest 60)"
    private static void payByTheBook() {
        for (int steps = 58; steps <= 62; steps++) {
            HeathForks x = Check.heath("sw3h1;vd60;fc1w60;fc2");
            x.go(0, 2);
            for (int i = 1; i < steps; i++) {
                x.go(1, i % 2 == 1 ? 2 : 0);
            }
            Check.due("the book behind " + steps, x.count(12), Math.min(60, steps));
            x.sink(0);
            Check.due("pay behind " + steps + " steps", x.fork(0, 6), steps <= 60 ? 6 : 0);
            Check.due("right behind " + steps + " steps", x.right(0), steps <= 60 ? 1 : 0);
            Check.due("heap behind " + steps + " steps", x.heap(), steps <= 60 ? 0 : NONE);
            Check.due("chance behind " + steps + " steps", x.chance(0), steps <= 60 ? 1000000 : 500000);
        }
    }

    // "NONE: no such CELL, there is a WELL" (sink, costs, loses)
    private static void costsAndLoses() {
        HeathForks x = Check.heath("sw3h1;vd10:rr;f");
        for (int cell = -2; cell <= 4; cell++) {
            boolean can = cell >= 0 && cell < 3;
            Check.due("costs(" + cell + ")", x.costs(cell), can ? 10 : NONE);
            Check.due("loses(" + cell + ")", x.loses(cell), can ? 0 : NONE);
            Check.due("brings(" + cell + ", 0)", x.brings(cell, 0), cell == NONE ? 0 : NONE);
        }
        x.sink(1);
        Check.due("costs of a well", x.costs(1), NONE);
        Check.due("loses of a well", x.loses(1), NONE);
        Check.due("sink of a well", x.sink(1), NONE);
        Check.due("loses beside it", x.loses(0), 1);
        Check.due("loses, without what that one brings", x.loses(2), 1);
        x.season();
        Check.due("it is too shallow now", x.loses(0), 0);
        Check.due("costs now", x.costs(0), 12);
        x.undo();
        Check.due("another beside it", x.sink(0), 10);
        Check.due("two lose", x.loses(2), 1);
        Check.due("only the cells beside", x.brings(0, 0), 8);
    }

    // "the SEASON in which all WELLS BRING least (of several the lowest)"
    private static void driestOfSeveral() {
        HeathForks none = Check.heath("f");
        Check.due("without wells", none.driest(), 0);
        HeathForks same = Check.heath("sa0;vd10;f");
        same.sink(0);
        Check.due("all the same", same.driest(), 0);
        HeathForks second = Check.heath("sa9;vd10;f");
        second.season();
        second.sink(0);
        Check.due("season 2 alone", second.driest(), 2);
        HeathForks first = Check.heath("sa9;vd10;f");
        first.sink(0);
        Check.due("of 1, 2 and 3 the lowest", first.driest(), 1);
        HeathForks less = Check.heath("sa5;vd10;f");
        less.season();
        less.season();
        less.sink(0);
        Check.due("season 2 brings less", less.driest(), 2);
        Check.due("9, 9, 8, 9", less.brings(NONE, 2), 8);
    }

    // "the FORK with the most PAY (of several the lowest)", "NONE: no PAY"
    private static void richestOfSeveral() {
        for (int fork = 0; fork < 6; fork++) {
            HeathForks x = Check.heath("sw2h1;vd20:r;fx1;fx1;fx1;fx1;fx1;fx1");
            Check.due("no pay", x.richest(), NONE);
            x.go(fork, 0);
            x.sink(0);
            Check.due("still none", x.richest(), NONE);
            x.sink(1);
            Check.due("the one with pay", x.richest(), fork);
            x.undo();
            Check.due("none again", x.richest(), NONE);
        }
        HeathForks x = Check.heath("sw3h1;vd10:rr;fx1;fx1;fc2x1");
        x.go(1, 0);
        x.sink(1);
        Check.due("pay of 1", x.fork(1, 6), 1);
        x.go(2, 2);
        x.go(2, 0);
        x.sink(2);
        Check.due("pay of 1, too", x.fork(2, 6), 1);
        Check.due("of several the lowest", x.richest(), 1);
    }

    // "NONE: no such ones." (cell, rule)
    private static void whatOfCells() {
        HeathForks x = Check.heath("sw6h5;vc29d1;ic29d9;kc29p9;f");
        x.sink(29);
        int[] dues = {1, 9, 9, 1, 1};
        for (int what = -3; what <= 8; what++) {
            Check.due("cell(29, " + what + ")", x.cell(29, what), what >= 0 && what < 5 ? dues[what] : NONE);
            Check.due("cell(30, " + what + ")", x.cell(30, what), NONE);
            Check.due("cell(-1, " + what + ")", x.cell(-1, what), NONE);
        }
        int[] none = {NONE, NONE, 0, 0, 0};
        for (int what = 0; what < 5; what++) {
            Check.due("cell(28, " + what + ")", x.cell(28, what), none[what]);
        }
        int[] rules = {6, 5, 2, 1};
        for (int what = -3; what <= 8; what++) {
            Check.due("rule(" + what + ")", x.rule(what), what >= 0 && what < 4 ? rules[what] : NONE);
        }
        for (int what = -3; what <= 20; what++) {
            Check.due("count(" + what + ") is told", x.count(what) != HIDDEN, what >= 0 && what <= 13);
        }
    }

    // "NoSuchElementException: no such ones."
    private static void whatOfForks() {
        for (int forks = 1; forks <= 6; forks++) {
            StringBuilder text = new StringBuilder("f");
            for (int i = 1; i < forks; i++) {
                text.append(";f");
            }
            HeathForks x = Check.heath(text.toString());
            for (int fork = -2; fork <= 8; fork++) {
                for (int what = -2; what <= 8; what++) {
                    boolean can = fork >= 0 && fork < forks && what >= 0 && what <= 6;
                    Check.due("no fork(" + fork + ", " + what + ") of " + forks, Check.noSuchFork(x, fork, what), !can);
                }
                boolean there = fork >= 0 && fork < forks;
                Check.due("twitch(" + fork + ", 0)", x.twitch(fork, 0), there ? 0 : NONE);
                Check.due("twitch(" + fork + ", 20)", x.twitch(fork, 20), NONE);
                Check.due("right(" + fork + ")", x.right(fork), there ? 0 : HIDDEN);
                Check.due("reach(" + fork + ", 0)", x.reach(fork, 0), there ? 1 : NONE);
                Check.due("go(" + fork + ", 2)", x.go(fork, 2), NONE);
                Check.due("nearest(" + fork + ")", x.nearest(fork), NONE);
            }
        }
    }
}
