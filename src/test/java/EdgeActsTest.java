/** The edges that promises 11, 14 to 19, 22 to 24, 42 and 43 name, with parts 2 to 4: one method for each sentence. */
public final class EdgeActsTest {
    private static final int NONE = HeathForks.NONE;
    private static final int HIDDEN = HeathForks.HIDDEN;

    public static void main(String[] args) {
        theLatest60();
        bookOfNoSuchOnes();
        pagesOfEachFork();
        undoOfEachAct();
        theLatest40();
        undoneAndDoneAgain();
        wherePagesComeBack();
        runBehindHowMany();
        runIsApart();
        performUpToThere();
        performIsActs();
        strollOutOfBounds();
        strollOfOne();
        strollIsActs();
        strollErrs();
        strollDraws();
        imageOfTheSeason();
        imageKeepsAll();
        imageInsteadOfTheOneAhead();
        imageOfThisHeath();
        backEndsActs();
        reachOutOfBounds();
        reachBehindAsManyOrFewer();
        reachWhereTheOtherGuildWas();
        stuckForks();
        trailAndFree();
        newHeathIsAllNew();
        Check.finish("EdgeActsTest");
    }

    private static void toAndFro(HeathForks x, int fork, int steps) {
        for (int i = 0; i < steps; i++) {
            x.go(fork, i % 2 == 0 ? 0 : 2);
        }
    }

    // "(FORK, CELL, TWITCH; the latest 60)"
    private static void theLatest60() {
        for (int steps = 0; steps <= 130; steps++) {
            HeathForks x = Check.heath("sw2h1;f;f");
            Check.tell(x, 1, "y:o");
            x.law(0);
            toAndFro(x, 1, steps);
            int length = Math.min(60, steps);
            Check.due("how long behind " + steps, x.count(12), length);
            Check.due("the latest behind " + steps, x.book(0, 1), steps == 0 ? NONE : steps % 2);
            Check.due("the oldest behind " + steps, x.book(length - 1, 1), steps == 0 ? NONE : (steps - length + 1) % 2);
            Check.due("its fork", x.book(length - 1, 0), steps == 0 ? NONE : 1);
            Check.due("none beyond", x.book(length, 1), NONE);
        }
        HeathForks x = Check.heath("sw3h1;f;fc1");
        x.go(1, 0);
        toAndFro(x, 0, 59);
        Check.due("the first of 60", x.book(59, 0), 1);
        x.go(0, 2);
        Check.due("gone with the 61st", x.book(59, 0), 0);
        Check.due("no 60", x.book(60, 0), NONE);
    }

    // "NONE: no such ones."
    private static void bookOfNoSuchOnes() {
        HeathForks x = Check.heath("sw3h1;f");
        for (int i = -2; i <= 2; i++) {
            Check.due("book(" + i + ", 0) at first", x.book(i, 0), NONE);
        }
        x.go(0, 0);
        x.go(0, 0);
        for (int i = -2; i <= 4; i++) {
            for (int what = -2; what <= 5; what++) {
                int due = i < 0 || i > 1 || what < 0 || what > 2 ? NONE : what == 1 ? 2 - i : 0;
                Check.due("book(" + i + ", " + what + ")", x.book(i, what), due);
            }
        }
        Check.due("book(60, 0)", x.book(60, 0), NONE);
        Check.due("book(100, 0)", x.book(100, 0), NONE);
    }

    private static void pagesOfEachFork() {
        HeathForks x = Check.heath("sw6h5;fc1;fc1;fc1;fc28;fc28;fc28");
        Check.tell(x, 1, "y:m*0+99");
        Check.tell(x, 1, "y:0");
        for (int fork = 0; fork < 6; fork++) {
            for (int law = 0; law < 2; law++) {
                x.law(law);
                Check.due("twitch", x.go(fork, fork < 3 ? 2 : 0), law == 0 ? 99 : 0);
                Check.due("fork", x.book(0, 0), fork);
                Check.due("cell", x.book(0, 1), fork < 3 ? 0 : 29);
                Check.due("twitch in the book", x.book(0, 2), law == 0 ? 99 : 0);
                x.go(fork, fork < 3 ? 0 : 2);
            }
        }
    }

    // "All these are ACTS: .. can be UNDONE one by one."
    private static void undoOfEachAct() {
        for (int acts = 0; acts < 6; acts++) {
            HeathForks x = Check.heath("sw3h1y2;vd20:rr;kc1p3;f;fc2g1");
            for (int act = 0; act < acts; act++) {
                actNumber(x, act);
            }
            String before = Snapshot.of(x);
            actNumber(x, acts);
            Check.due("act " + acts + " changes something", Snapshot.of(x).equals(before), false);
            Check.due("undo of act " + acts, x.undo(), acts);
            Check.due("as it was before act " + acts, Snapshot.of(x).equals(before), true);
        }
        HeathForks x = Check.heath("sw3h1;f");
        String first = Snapshot.of(x);
        Check.due("none", x.undo(), NONE);
        Check.due("as it was, still", Snapshot.of(x).equals(first), true);
        Check.tell(x, 1, "y:1");
        Check.due("laws are no acts", x.law(0), true);
        Check.tell(x, 2, "0r");
        x.hear(0, 0, true);
        x.image();
        x.run(0, 0);
        Check.due("neither are these", x.count(13), 0);
        Check.due("none to undo", x.undo(), NONE);
        Check.due("the law holds on", x.count(6), 0);
    }

    private static void actNumber(HeathForks x, int act) {
        switch (act) {
            case 0:
                Check.due("a step", x.go(0, 0), 11);
                break;
            case 1:
                Check.due("a wet well", x.sink(1), 100);
                break;
            case 2:
                Check.due("a season", x.season(), 1);
                break;
            case 3:
                Check.due("a well without pay", x.sink(0), 44);
                break;
            case 4:
                Check.due("a step back", x.go(0, 2), 9);
                break;
            default:
                Check.due("a step of a stroll", x.stroll(60, 1) > 0, true);
                for (int i = x.count(13); i > 6; i--) {
                    x.undo();
                }
                break;
        }
    }

    // "the latest 40 can be UNDONE one by one"
    private static void theLatest40() {
        for (int acts = 38; acts <= 90; acts++) {
            HeathForks x = Check.heath("sw2h1;f");
            toAndFro(x, 0, acts);
            Check.due("acts that can be undone of " + acts, x.count(13), Math.min(40, acts));
            int can = Math.min(40, acts);
            for (int i = 1; i <= can; i++) {
                Check.due("undo " + i + " of " + acts, x.undo(), can - i);
                Check.due("where it is then", x.fork(0, 0), (acts - i) % 2);
            }
            Check.due("undo once more", x.undo(), NONE);
            Check.due("where it stays", x.fork(0, 0), (acts - can) % 2);
            Check.due("the book then", x.count(12), acts - can);
        }
        HeathForks mixed = Check.heath("sw2h1;f");
        mixed.sink(0);
        for (int i = 0; i < 39; i++) {
            mixed.season();
        }
        for (int i = 0; i < 39; i++) {
            mixed.undo();
        }
        Check.due("the 40th", mixed.undo(), 0);
        Check.due("was the well", mixed.count(8), 0);
        HeathForks far = Check.heath("sw2h1;f");
        far.sink(0);
        for (int i = 0; i < 40; i++) {
            far.season();
        }
        for (int i = 0; i < 40; i++) {
            far.undo();
        }
        Check.due("the 41st", far.undo(), NONE);
        Check.due("is the well, which stays", far.count(8), 1);
    }

    private static void undoneAndDoneAgain() {
        HeathForks x = Check.heath("sw2h1;f");
        for (int i = 0; i < 45; i++) {
            x.season();
        }
        for (int i = 0; i < 20; i++) {
            x.undo();
        }
        Check.due("20 left", x.count(13), 20);
        Check.due("season of 25", x.count(7), 1);
        for (int i = 0; i < 25; i++) {
            x.season();
        }
        Check.due("40 again", x.count(13), 40);
        for (int i = 0; i < 40; i++) {
            x.undo();
        }
        Check.due("season of 10", x.count(7), 2);
        Check.due("none more", x.undo(), NONE);
    }

    private static void wherePagesComeBack() {
        HeathForks x = Check.heath("sw3h1;f;fc1");
        x.go(1, 0);
        toAndFro(x, 0, 99);
        for (int i = 0; i < 39; i++) {
            x.undo();
        }
        Check.due("the book is full", x.count(12), 60);
        Check.due("the oldest is the second", x.book(59, 0), 0);
        x.undo();
        Check.due("the first is back", x.book(59, 0), 1);
        Check.due("its cell", x.book(59, 1), 2);
        Check.due("60 still", x.count(12), 60);
        x.go(1, 2);
        Check.due("one that goes drops it again", x.book(59, 0), 0);
    }

    // "behind how many STEPS in all the first is that can't be", "NONE: all can be"
    private static void runBehindHowMany() {
        String all = "rdlurdlu";
        for (int can = 0; can <= 16; can++) {
            StringBuilder text = new StringBuilder();
            for (int i = 0; i < 16; i++) {
                text.append(i % 8 != 0 ? "" : i == 0 ? "0" : ";0").append(i < can ? "rl".charAt(i % 2) : 'u');
            }
            HeathForks x = Check.heath("sw2h1;f");
            Check.tell(x, 1, "y:3");
            x.law(0);
            Check.tell(x, 2, text.toString());
            Check.due("run of " + text, x.run(0, 0), can == 16 ? NONE : can);
            Check.due("twitches of " + text, x.run(0, 1), 3 * can);
            Check.due("perform of " + text, x.perform(0), can);
        }
        HeathForks most = Check.heath("sw2h2;f");
        Check.tell(most, 1, "y:99");
        most.law(0);
        Check.tell(most, 2, "0" + all + ";0" + all + ";0" + all + ";0" + all + ";0" + all + ";0" + all + ";0" + all + ";0" + all);
        Check.due("all of 64", most.run(0, 0), NONE);
        Check.due("twitches of 64", most.run(0, 1), 64 * 99);
        for (int walks = -2; walks <= 5; walks++) {
            for (int what = -2; what <= 3; what++) {
                boolean can = walks == 0 && (what == 0 || what == 1);
                Check.due("run(" + walks + ", " + what + ") is told", most.run(walks, what) != HIDDEN, can);
            }
        }
    }

    // "(apart)"
    private static void runIsApart() {
        HeathForks x = Check.heath("sw3h1;vc1d9;f;fc2g1");
        Check.tell(x, 2, "0r;1l");
        String before = Snapshot.of(x);
        Check.due("run", x.run(0, 0), 1);
        Check.due("twitches", x.run(0, 1), 22);
        Check.due("nothing changed", Snapshot.of(x).equals(before), true);
        Check.due("again", x.run(0, 0), 1);
        x.go(1, 2);
        Check.due("from where they are now", x.run(0, 0), 0);
        Check.due("no twitches now", x.run(0, 1), 0);
        x.undo();
        x.season();
        Check.due("by the season now", x.run(0, 1), 20);
    }

    // "DO: its STEPS as ACTS, up to there."
    private static void performUpToThere() {
        HeathForks x = Check.heath("sw3h1;vc1d9;f;fc2g1");
        Check.tell(x, 2, "0r;1l;0l");
        Check.due("perform", x.perform(0), 1);
        Check.due("where 0 is", x.fork(0, 0), 1);
        Check.due("where 1 is", x.fork(1, 0), 2);
        Check.due("its page", x.book(0, 2), 22);
        Check.due("one page", x.count(12), 1);
        Check.due("one act", x.count(13), 1);
        Check.due("none at all", Check.heath("f").perform(0), NONE);
        for (int walks = -2; walks <= 4; walks++) {
            Check.due("perform(" + walks + ") is done", x.perform(walks) != NONE, walks == 0);
        }
    }

    private static void performIsActs() {
        HeathForks x = Check.heath("sw3h1;vc1d9;fe9;fc2e9");
        Check.tell(x, 2, "0rl;1l");
        String before = Snapshot.of(x);
        Check.due("perform", x.perform(0), 3);
        int[][] pages = {{1, 1, 22}, {0, 0, 0}, {0, 1, 22}};
        for (int i = 0; i < 3; i++) {
            for (int what = 0; what < 3; what++) {
                Check.due("page, which no one errs in", x.book(i, what), pages[i][what]);
            }
        }
        for (int i = 2; i >= 0; i--) {
            Check.due("undo", x.undo(), i);
        }
        Check.due("as it was", Snapshot.of(x).equals(before), true);
    }

    // "n (1 .. 60)"
    private static void strollOutOfBounds() {
        int[] wrong = {Integer.MIN_VALUE, -1, 0, 61, 62, 1000, Integer.MAX_VALUE};
        for (int n : wrong) {
            HeathForks x = Check.heath("sw2h2;f");
            Check.due("stroll(" + n + ")", x.stroll(n, 1), NONE);
            Check.due("nothing gone", x.count(12), 0);
        }
        for (int n = 1; n <= 60; n++) {
            HeathForks x = Check.heath("sw2h2;f");
            int gone = x.stroll(n, 99);
            Check.due("as many at most", gone >= 0 && gone <= n, true);
            Check.due("pages", x.count(12), gone);
            Check.due("acts", x.count(13), Math.min(40, gone));
        }
    }

    private static long next(long x) {
        return x * 6364136223846793005L + 1442695040888963407L;
    }

    private static int draw(long x, int m) {
        return (int) ((x >>> 33) % m);
    }

    private static void strollOfOne() {
        int gone = 0;
        for (long seed = 0; seed < 40; seed++) {
            HeathForks x = Check.heath("sw3h3;fc4;fc0;fc8");
            long one = next(seed);
            long two = next(one);
            int fork = draw(one, 3);
            HeathForks y = Check.heath("sw3h3;fc4;fc0;fc8");
            int due = y.go(fork, draw(two, 4)) == NONE ? 0 : 1;
            gone += due;
            Check.due("one step by seed " + seed, x.stroll(1, seed), due);
            Check.due("as by hand", Snapshot.of(x).equals(Snapshot.of(y)), true);
        }
        Check.due("some can go and some can't", gone > 5 && gone < 40, true);
    }

    // "Each STEP that was gone is an ACT."
    private static void strollIsActs() {
        HeathForks x = Check.heath("sw3h2;vd5:rr;f;fc5e5;fc2g1e9");
        String before = Snapshot.of(x);
        int gone = x.stroll(30, 12345);
        Check.due("some were gone", gone > 0, true);
        Check.due("acts", x.count(13), gone);
        for (int i = gone - 1; i >= 0; i--) {
            Check.due("undo", x.undo(), i);
        }
        Check.due("as it was", Snapshot.of(x).equals(before), true);
        Check.due("none more", x.undo(), NONE);
    }

    // "a draw of 10 below e: its TWITCH in THE BOOK is 0, if it was above 0, else 1"
    private static void strollErrs() {
        for (int errs = 0; errs <= 9; errs++) {
            for (int law = 0; law <= 2; law++) {
                HeathForks x = Check.heath("sw1h2;fe" + errs);
                Check.tell(x, 1, "y:" + law);
                x.law(0);
                long seed = 77 + errs;
                long state = seed;
                int[] pages = new int[60];
                int gone = 0;
                int place = 0;
                for (int i = 0; i < 60; i++) {
                    state = next(next(state));
                    if (draw(state, 4) != (place == 0 ? 1 : 3)) {
                        continue;
                    }
                    place = 1 - place;
                    state = next(state);
                    pages[gone] = draw(state, 10) < errs ? (law > 0 ? 0 : 1) : law;
                    gone++;
                }
                Check.due("gone", x.stroll(60, seed), gone);
                for (int i = 0; i < gone; i++) {
                    Check.due("a page with e " + errs, x.book(gone - 1 - i, 2), pages[i]);
                }
            }
        }
    }

    // "x .. becomes x times .. and .. (64 bits, going round); a draw of m: (x shifted right by 33, without sign)"
    private static void strollDraws() {
        long[] seeds = {0, 1, -1, Long.MIN_VALUE, Long.MAX_VALUE, -6364136223846793005L};
        for (long seed : seeds) {
            for (int forks = 1; forks <= 6; forks++) {
                StringBuilder text = new StringBuilder("sw6h5");
                for (int i = 0; i < forks; i++) {
                    text.append(";fe0c").append(14 + i % 2);
                }
                HeathForks x = Check.heath(text.toString());
                HeathForks y = Check.heath(text.toString());
                long state = seed;
                int gone = 0;
                for (int i = 0; i < 10; i++) {
                    state = next(state);
                    int fork = draw(state, forks);
                    state = next(state);
                    if (y.go(fork, draw(state, 4)) != NONE) {
                        state = next(state);
                        gone++;
                    }
                }
                Check.due("gone by " + seed, x.stroll(10, seed), gone);
                for (int i = 0; i < gone; i++) {
                    Check.due("fork by " + seed, x.book(i, 0), y.book(i, 0));
                    Check.due("cell by " + seed, x.book(i, 1), y.book(i, 1));
                }
            }
        }
    }

    // "An IMAGE ..: the SEASON."
    private static void imageOfTheSeason() {
        HeathForks x = Check.heath("f");
        for (int season = 0; season < 8; season++) {
            Check.due("image in season " + season, x.image(), season % 4);
            x.season();
            Check.due("back in season " + season, x.back(), season % 4);
            Check.due("the season", x.count(7), season % 4);
            x.season();
        }
    }

    // "keeps where FORKS are and were, THE BOOK, WELLS and what they COST, PAY, the SEASON"
    private static void imageKeepsAll() {
        HeathForks x = Check.heath("sw3h2y3;vd20:rr;kc1p2;f;f;fc5g1");
        x.go(0, 0);
        x.sink(1);
        x.season();
        x.go(2, 2);
        x.image();
        int acts = x.count(13);
        String kept = withoutActs(x);
        for (int i = 0; i < acts; i++) {
            x.undo();
        }
        x.go(1, 0);
        x.go(1, 0);
        x.sink(2);
        x.sink(0);
        x.season();
        x.season();
        x.season();
        x.go(0, 1);
        Check.due("all is other", withoutActs(x).equals(kept), false);
        Check.due("back", x.back(), 1);
        Check.due("all is as it was", withoutActs(x).equals(kept), true);
        Check.due("pay of 0", x.fork(0, 6), 10);
        Check.due("pay of 1", x.fork(1, 6), 0);
        Check.due("cost", x.count(10), 100);
        Check.due("page 0", x.book(0, 0) * 100 + x.book(0, 1), 204);
        Check.due("page 1", x.book(1, 0) * 100 + x.book(1, 1), 1);
        x.stroll(60, 5);
        x.stroll(60, 6);
        x.back();
        Check.due("page 1 behind many", x.book(1, 0) * 100 + x.book(1, 1), 1);
        Check.due("two pages behind many", x.count(12), 2);
        x.hear(0, 0, true);
        x.back();
        Check.due("what was heard is not in it", x.count(11), 1);
    }

    /** A snapshot but for count(13), which is the 14th number in it. */
    private static String withoutActs(HeathForks x) {
        String all = Snapshot.of(x);
        int end = all.indexOf("rules");
        int from = all.lastIndexOf(' ', end - 2);
        return all.substring(0, from) + all.substring(end);
    }

    // "(instead of the one ahead)"
    private static void imageInsteadOfTheOneAhead() {
        HeathForks x = Check.heath("sw3h1;f");
        x.image();
        x.go(0, 0);
        x.image();
        x.go(0, 0);
        x.back();
        Check.due("the latest image", x.fork(0, 0), 1);
        x.go(0, 0);
        x.back();
        Check.due("it is still there", x.fork(0, 0), 1);
    }

    // "NONE: no IMAGE of this HEATH."
    private static void imageOfThisHeath() {
        HeathForks x = new HeathForks();
        Check.due("without heath", x.image(), NONE);
        Check.due("back without heath", x.back(), NONE);
        Check.tell(x, 0, "f");
        Check.due("an image without heath is none", x.back(), NONE);
        x.season();
        Check.due("what was refused changed nothing", x.undo(), 0);
        x.season();
        Check.due("image", x.image(), 1);
        Check.due("a text with a fault", Check.tell(x, 0, "g"), NONE);
        Check.due("back", x.back(), 1);
        Check.tell(x, 0, "f");
        Check.due("of another heath, though the same text", x.back(), NONE);
        Check.due("season of the new heath", x.count(7), 0);
        Check.due("an image of this one", x.image(), 0);
        Check.due("back to it", x.back(), 0);
    }

    // "(no ACT can be UNDONE then)"
    private static void backEndsActs() {
        HeathForks x = Check.heath("sw2h1;f");
        x.go(0, 0);
        x.season();
        x.image();
        Check.due("an image ends none", x.count(13), 2);
        x.back();
        Check.due("back ends all", x.count(13), 0);
        Check.due("undo", x.undo(), NONE);
        Check.due("the season stays", x.count(7), 1);
        x.season();
        Check.due("an act again", x.count(13), 1);
        Check.due("it is undone", x.undo(), 0);
        Check.due("none ahead of it", x.undo(), NONE);
        HeathForks y = Check.heath("sw2h1;f");
        y.season();
        Check.due("back, refused, ends none", y.back(), NONE);
        Check.due("the act stays", y.count(13), 1);
        HeathForks z = Check.heath("sw3h1;f;fc1");
        z.go(1, 0);
        toAndFro(z, 0, 59);
        z.image();
        toAndFro(z, 1, 30);
        z.back();
        z.go(0, 2);
        z.go(0, 0);
        Check.due("two pages are gone", z.book(59, 0), 0);
        z.undo();
        z.undo();
        Check.due("they come back behind back, too", z.book(59, 0), 1);
    }

    // "REACH of a FORK in n (0 .. 9) STEPS"
    private static void reachOutOfBounds() {
        HeathForks x = Check.heath("sw6h5;f;fc29");
        for (int n = -3; n <= 12; n++) {
            Check.due("reach(0, " + n + ") is told", x.reach(0, n) != NONE, n >= 0 && n <= 9);
            Check.due("reach(1, " + n + ") is told", x.reach(1, n) != NONE, n >= 0 && n <= 9);
            Check.due("reach(2, " + n + ") is told", x.reach(2, n) != NONE, false);
            Check.due("reach(-1, " + n + ") is told", x.reach(-1, n) != NONE, false);
        }
    }

    // "CELLS (bits) where it can be behind as many or fewer"
    private static void reachBehindAsManyOrFewer() {
        for (int start = 0; start < 30; start++) {
            HeathForks x = Check.heath("sw6h5;fc" + start);
            for (int n = 0; n <= 9; n++) {
                int due = 0;
                for (int cell = 0; cell < 30; cell++) {
                    int far = Math.abs(cell % 6 - start % 6) + Math.abs(cell / 6 - start / 6);
                    due |= far <= n ? 1 << cell : 0;
                }
                Check.due("reach from " + start + " in " + n, x.reach(0, n), due);
            }
        }
        HeathForks one = Check.heath("sw1h1;f");
        Check.due("one cell", one.reach(0, 9), 1);
    }

    // a step "if .. no FORK of the other GUILD was in it", "if nobody else goes"
    private static void reachWhereTheOtherGuildWas() {
        HeathForks x = Check.heath("sw3h3;fc0;fc4g1;fc1g1");
        x.go(1, 0);
        Check.due("round the line", x.reach(0, 9), 1 + 8 + 64 + 128 + 256);
        Check.due("round the line in 3", x.reach(0, 3), 1 + 8 + 64 + 128);
        Check.due("the other guild's own line", x.reach(1, 1), 32 + 16 + 4 + 256);
        HeathForks y = Check.heath("sw3h1;fc1;fc1g1");
        Check.due("from a cell of both", y.reach(0, 0), 2);
        Check.due("from a cell of both, on", y.reach(0, 1), 7);
        y.go(0, 0);
        Check.due("not back through it", y.reach(0, 9), 4);
        Check.due("the other, to one side", y.reach(1, 9), 3);
        HeathForks z = Check.heath("sw4h1;f;fc1;fc3g1");
        Check.due("others of the guild do not matter", z.reach(0, 9), 7);
    }

    // "STUCK: FORKS (bits) that can go nowhere."
    private static void stuckForks() {
        Check.due("one cell, six forks", Check.heath("sw1h1;f;f;f;fg1;fg1;fg1").stuck(), 63);
        Check.due("none", Check.heath("sw2h1;f;f;f;f;f;f").stuck(), 0);
        Check.due("both side by side", Check.heath("sw2h1;f;fc1g1").stuck(), 3);
        Check.due("one in the middle", Check.heath("sw3h3;fc4;fc1g1;fc3g1;fc5g1;fc7g1").stuck(), 1);
        Check.due("one way is left", Check.heath("sw3h3;fc4;fc1g1;fc3g1;fc5g1").stuck(), 0);
        Check.due("in a corner", Check.heath("sw3h3;fc8;fc5g1;fc7g1").stuck(), 1);
        Check.due("one of its guild beside it", Check.heath("sw3h1;f;fc1;fc2g1").stuck(), 4);
    }

    // "TRAIL of a GUILD", "FREE of a GUILD: CELLS (bits) in which no FORK of the other one was", "NONE: no such ones"
    private static void trailAndFree() {
        HeathForks x = Check.heath("sw6h5;f;fc29g1");
        int all = (1 << 30) - 1;
        Check.due("trail of 0", x.trail(0, 0), 1);
        Check.due("trail of 1", x.trail(1, 0), 1 << 29);
        Check.due("free of 0", x.trail(0, 1), all - (1 << 29));
        Check.due("free of 1", x.trail(1, 1), all - 1);
        x.go(0, 0);
        x.go(1, 3);
        Check.due("trail of 0 then", x.trail(0, 0), 3);
        Check.due("trail of 1 then", x.trail(1, 0), (1 << 29) + (1 << 23));
        Check.due("free of 1 then", x.trail(1, 1), all - 3);
        for (int guild = -2; guild <= 3; guild++) {
            for (int what = -2; what <= 3; what++) {
                boolean can = (guild == 0 || guild == 1) && (what == 0 || what == 1);
                Check.due("trail(" + guild + ", " + what + ") is told", x.trail(guild, what) != NONE, can);
            }
        }
        HeathForks y = Check.heath("sw2h1;f");
        Check.due("a guild without forks", y.trail(1, 0), 0);
        Check.due("free of it", y.trail(1, 1), 2);
        Check.due("free of the other", y.trail(0, 1), 3);
        HeathForks z = Check.heath("sw2h1;f;fg1");
        Check.due("both in one cell", z.trail(0, 0) + z.trail(1, 0), 2);
        Check.due("free of neither", z.trail(0, 1) + z.trail(1, 1), 4);
    }

    // "(SEASON 0; all that was of another one is gone but LAWS, which holds, WALKS)"
    private static void newHeathIsAllNew() {
        HeathForks x = Check.heath("sw3h2y3;vd20:rr;kc1p2;ic2;f;f;fc5g1");
        Check.tell(x, 1, "y:o+3");
        Check.tell(x, 2, "1r");
        x.law(0);
        x.go(0, 0);
        x.go(2, 3);
        x.sink(1);
        x.sink(0);
        x.sink(5);
        x.season();
        x.hear(2, 5, true);
        x.image();
        Check.due("a new one", Check.tell(x, 0, "sw3h2;f;f"), 6);
        HeathForks y = new HeathForks();
        Check.tell(y, 1, "y:o+3");
        Check.tell(y, 2, "1r");
        y.law(0);
        Check.tell(y, 0, "sw3h2;f;f");
        Check.due("it is as on a new object", Snapshot.of(x).equals(Snapshot.of(y)), true);
        for (int cell = 0; cell < 6; cell++) {
            Check.due("no well was sunk in " + cell, x.cell(cell, 4), 0);
        }
        Check.due("no pay", x.fork(0, 6) + x.fork(1, 6), 0);
        Check.due("no image", x.back(), NONE);
        Check.due("no act", x.undo(), NONE);
        Check.due("nothing heard", x.fits(2, NONE), 7);
        Check.due("no page", x.book(0, 0), NONE);
        Check.due("chance", x.chance(1), 500000);
    }
}
