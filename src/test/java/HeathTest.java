/** Promises 6 to 8, 10, 34 to 36 and 44: what stands in a heath, and twitches with and without laws. */
public final class HeathTest {
    private static final int NONE = HeathForks.NONE;
    private static final String HEATH =
        "sw3h3a4y3;vc0d10f5:rdl;vc4d12f0:ul;ic2d3;kc4p2;fc8w25i3x6e2g1;fc2w0";

    public static void main(String[] args) {
        rule();
        cell();
        depths();
        fork();
        twitch();
        lawLetters();
        lawSums();
        lawConditions();
        nearest();
        meets();
        shallow();
        count();
        Check.finish("HeathTest");
    }

    private static void rule() {
        HeathForks x = new HeathForks();
        for (int what = -1; what <= 4; what++) {
            Check.due("rule without heath", x.rule(what), NONE);
        }
        Check.tell(x, 0, HEATH);
        int[] told = {NONE, 3, 3, 4, 3, NONE};
        Check.tell(x, 2, "0r");
        for (int what = -1; what <= 4; what++) {
            Check.due("rule(" + what + ")", x.rule(what), told[what + 1]);
        }
        int[] plain = {5, 4, 2, 1};
        Check.tell(x, 0, "f");
        for (int what = 0; what < 4; what++) {
            Check.due("rule(" + what + ") without s", x.rule(what), plain[what]);
        }
        Check.tell(x, 0, "f;sa0");
        Check.due("s behind f", x.rule(2), 0);
    }

    private static void cell() {
        HeathForks x = Check.heath(HEATH);
        int[] depths = {10, 12, NONE, 25, 12, NONE, NONE, NONE, NONE};
        for (int cell = 0; cell < 9; cell++) {
            Check.due("depth in " + cell, x.cell(cell, 0), depths[cell]);
            Check.due("iron in " + cell, x.cell(cell, 1), cell == 2 ? 3 : NONE);
            Check.due("rock in " + cell, x.cell(cell, 2), cell == 4 ? 2 : 0);
            Check.due("well in " + cell, x.cell(cell, 3), 0);
            Check.due("sunk in " + cell, x.cell(cell, 4), 0);
        }
        x.sink(3);
        x.sink(8);
        Check.due("a well", x.cell(3, 3), 1);
        Check.due("sunk to water", x.cell(3, 4), 25);
        Check.due("sunk without water", x.cell(8, 4), 60);
        for (int what = 0; what < 5; what++) {
            Check.due("cell(-1, ..)", x.cell(-1, what), NONE);
            Check.due("cell(9, ..)", x.cell(9, what), NONE);
        }
        Check.due("cell(0, 5)", x.cell(0, 5), NONE);
        Check.due("cell(0, -1)", x.cell(0, -1), NONE);
    }

    private static void depths() {
        HeathForks x = Check.heath(HEATH);
        int[] more = {0, 4, 8, 4, 0};
        for (int i = 0; i < 5; i++) {
            Check.due("depth by season, turn " + i, x.cell(0, 0), 10 + more[i]);
            x.season();
        }
        Check.tell(x, 0, "sa9;vd60f9:rrrr;f");
        x.season();
        x.season();
        int[] deep = {78, 87, 96, 99, 99};
        for (int cell = 0; cell < 5; cell++) {
            Check.due("99 at most in " + cell, x.cell(cell, 0), deep[cell]);
        }
        Check.tell(x, 0, "vd10f5:rlr;f");
        Check.due("of a vein that comes twice the first", x.cell(0, 0), 10);
        Check.due("the second cell, too", x.cell(1, 0), 15);
        Check.tell(x, 0, "v;f");
        Check.due("depth without d", x.cell(0, 0), 20);
    }

    private static void fork() {
        HeathForks x = Check.heath(HEATH);
        int[] first = {8, 25, 3, 6, 2, 1, 0};
        int[] second = {2, 0, 0, NONE, 0, 0, 0};
        for (int what = 0; what <= 6; what++) {
            Check.due("fork(0, " + what + ")", x.fork(0, what), first[what]);
            Check.due("fork(1, " + what + ")", x.fork(1, what), second[what]);
        }
        Check.due("fork(2, 0)", Check.noSuchFork(x, 2, 0), true);
        Check.due("fork(-1, 0)", Check.noSuchFork(x, -1, 0), true);
        Check.due("fork(6, 0)", Check.noSuchFork(x, 6, 0), true);
        Check.due("fork(0, 7)", Check.noSuchFork(x, 0, 7), true);
        Check.due("fork(0, -1)", Check.noSuchFork(x, 0, -1), true);
        Check.tell(x, 0, "f;fx20;fx19");
        Check.due("heeds water without w", x.fork(0, 1), 30);
        Check.due("a wish that is not of the heath", x.fork(1, 3), NONE);
        Check.due("a wish in the last cell", x.fork(2, 3), 19);
    }

    private static void twitch() {
        HeathForks x = Check.heath(HEATH);
        int[] now = {16, 14, 10, 1, 14, 0, 5, 0, 0};
        for (int cell = 0; cell < 9; cell++) {
            Check.due("twitch(0, " + cell + ")", x.twitch(0, cell), now[cell]);
            Check.due("twitch(1, " + cell + ")", x.twitch(1, cell), 0);
        }
        x.season();
        x.season();
        Check.due("twitch by season 2", x.twitch(0, 0), 8);
        Check.due("too deep in season 2", x.twitch(0, 3), 0);
        Check.due("twitch(2, 0)", x.twitch(2, 0), NONE);
        Check.due("twitch(-1, 0)", x.twitch(-1, 0), NONE);
        Check.due("twitch(0, 9)", x.twitch(0, 9), NONE);
        Check.due("twitch(0, -1)", x.twitch(0, -1), NONE);
        Check.tell(x, 0, "vd20;id3;fw22i3x0;fw22i2x0;fw22x1;fw40i9x0");
        Check.due("iron above water", x.twitch(0, 0), 10);
        Check.due("iron too deep, a wish", x.twitch(1, 0), 5);
        Check.due("water alone", x.twitch(2, 0), 3);
        Check.due("water above iron", x.twitch(3, 0), 21);
    }

    private static int worth(HeathForks x, String law, int fork, int cell) {
        HeathForks y = x;
        Check.tell(y, 1, law);
        y.law(y.count(3) - 1);
        return y.twitch(fork, cell);
    }

    private static void lawLetters() {
        String heath = "sw3;vc1d8;ic2d4;fc0w33x1;fc0;fc1";
        String[] laws = {"y:d", "y:m", "y:i", "y:x", "y:s", "y:o"};
        int[][] dues = {{99, 8, 99}, {33, 33, 33}, {99, 99, 4}, {0, 1, 0}, {0, 0, 0}, {2, 2, 1}};
        for (int i = 0; i < laws.length; i++) {
            HeathForks x = Check.heath(heath);
            for (int cell = 0; cell < 3; cell++) {
                if (cell == 0) {
                    Check.due(laws[i], worth(x, laws[i], 0, cell), dues[i][cell]);
                } else {
                    Check.due(laws[i] + " in " + cell, x.twitch(0, cell), dues[i][cell]);
                }
            }
        }
        HeathForks x = Check.heath(heath);
        Check.due("s in season 0", worth(x, "y:s*10+d", 0, 1), 8);
        x.season();
        Check.due("s and d in season 1", x.twitch(0, 1), 20);
        x.season();
        Check.due("s and d in season 2", x.twitch(0, 1), 32);
        Check.tell(x, 1, "y:o");
        x.law(1);
        Check.due("it is in the cell then", x.go(0, 0), 2);
        Check.due("those who are left", x.twitch(1, 0), 1);
    }

    private static void lawSums() {
        String[] laws = {
            "y:9999*9999/9999/2", "y:[0-9999*9999]/9999+150", "y:[9999*9999+9999]/9999-50",
            "y:[0-9999*9999-9999]/9999+150", "y:[0-7]/2+10", "y:5/0+3", "y:1+2*3", "y:[1+2]*3", "y:20-5-3",
            "y:20-[5-3]", "y:99/5/2", "y:99/5*2", "y:2*3-4/2+1", "y:100", "y:99", "y:0-1", "y:7*[0-1]",
            "y:0099", "y:2*3*4+5*6-1", "y:1-2+3-4+5", "y:[[[2]*3]*4]"};
        int[] dues = {50, 50, 50, 50, 7, 3, 7, 9, 12, 18, 9, 38, 5, 99, 99, 0, 0, 99, 53, 3, 24};
        for (int i = 0; i < laws.length; i++) {
            Check.due(laws[i], worth(Check.heath("f"), laws[i], 0, 0), dues[i]);
        }
    }

    private static void lawConditions() {
        String[] laws = {
            "y:1=1?5", "y:1=2?5", "y:1=2?5;y:6", "y:1=1?5;y:6", "y:5;y:6", "y:1<2&2<3?4;y:9", "y:1<2&3<2?4;y:9",
            "y:3<2|1<2?4;y:9", "y:1=1|1=1&1=2?4;y:9", "y:1=2&1=1|1=1?4;y:9", "y:(1=1|1=1)&1=2?4;y:9",
            "y:!1=1|1=1?4;y:9", "y:!1=2&1=2?4;y:9", "y:!(1=1|1=2)?4;y:9", "y:!!1=1?4;y:9", "y:1=2|1=2|1=1?4;y:9",
            "y:1=1&1=1&1=2?4;y:9", "y:1=2&1=1|1=2&1=1|1=1&1=1?4;y:9", "y:1>1?4;y:9", "y:1<1?4;y:9", "y:2>1?4;y:9",
            "y:1+1=2?4;y:9", "y:3-1*2=[3-1]*2?4;y:9", "y:d=99?4;y:9", "y:1=2?1;y:1=2?2;y:1=1?3;y:4",
            "y:2=2&(1=2|!3<2)?4;y:9"};
        int[] dues = {5, 0, 6, 5, 5, 4, 9, 4, 4, 4, 9, 4, 9, 9, 4, 4, 9, 4, 9, 9, 4, 4, 9, 4, 3, 4};
        for (int i = 0; i < laws.length; i++) {
            Check.due(laws[i], worth(Check.heath("f"), laws[i], 0, 0), dues[i]);
        }
    }

    private static void nearest() {
        HeathForks x = new HeathForks();
        Check.due("nearest without heath", x.nearest(0), NONE);
        Check.tell(x, 0, HEATH);
        Check.due("nearest(0)", x.nearest(0), 2);
        Check.due("nearest(1)", x.nearest(1), 1);
        Check.due("nearest(2)", x.nearest(2), NONE);
        Check.due("nearest(-1)", x.nearest(-1), NONE);
        Check.tell(x, 0, "f;i");
        Check.due("nearest without vein", x.nearest(0), NONE);
        Check.tell(x, 0, "f;v");
        Check.due("nearest itself", x.nearest(0), 0);
        Check.tell(x, 0, "sw3h1;f;fc1g1;vc2");
        Check.due("guilds do not matter", x.nearest(0), 2);
        Check.tell(x, 0, "sw6h5;f;vc29");
        Check.due("from corner to corner", x.nearest(0), 9);
        x.go(0, 1);
        Check.due("nearest from where it is", x.nearest(0), 8);
    }

    private static void meets() {
        HeathForks x = new HeathForks();
        Check.due("meets without heath", x.meets(), NONE);
        Check.tell(x, 0, HEATH);
        Check.due("meets", x.meets(), 19);
        Check.tell(x, 0, "f;v:rl");
        Check.due("a vein does not meet itself", x.meets(), 0);
        Check.tell(x, 0, "f;v:rr;vc1:r;vc2:d;vc7");
        Check.due("three veins", x.meets(), 2 + 4 + 128);
    }

    private static void shallow() {
        HeathForks x = new HeathForks();
        Check.due("shallow without heath", x.shallow(), NONE);
        Check.tell(x, 0, "f;k");
        Check.due("shallow without vein", x.shallow(), NONE);
        Check.tell(x, 0, HEATH);
        Check.due("shallow", x.shallow(), 0);
        Check.tell(x, 0, "f;vc7d9;vc3d9;vc1d10");
        Check.due("of several the lowest", x.shallow(), 3);
        Check.tell(x, 0, "sa9;f;vc3d60f9:rddllllu;vc0d60f9:rrdddll");
        x.season();
        x.season();
        Check.due("all very deep", x.shallow(), 0);
    }

    private static void count() {
        HeathForks x = Check.heath(HEATH);
        int[] dues = {9, 2, 2, 0, 0, 0, NONE, 0, 0, 0, 0, 0, 0, 0};
        for (int what = 0; what <= 13; what++) {
            Check.due("count(" + what + ")", x.count(what), dues[what]);
        }
        Check.tell(x, 1, "y:1");
        Check.tell(x, 2, "0l");
        Check.tape(x, "abc");
        x.law(0);
        x.season();
        x.go(0, 2);
        x.sink(7);
        x.sink(0);
        x.go(0, 3);
        x.sink(4);
        x.hear(0, 0, true);
        x.hear(1, 0, false);
        x.hear(1, 0, false);
        int[] later = {9, 2, 2, 1, 1, 3, 0, 1, 128 + 1 + 16, 8, 180 + 42 + 80, 3, 2, 6};
        for (int what = 0; what <= 13; what++) {
            Check.due("later count(" + what + ")", x.count(what), later[what]);
        }
        Check.due("count(14)", x.count(14), HeathForks.HIDDEN);
        Check.due("count(-1)", x.count(-1), HeathForks.HIDDEN);
    }
}
