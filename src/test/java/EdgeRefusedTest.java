import java.util.function.ToIntFunction;

/** "What is refused answers as told and changes nothing.": each call just out of bounds; and asking changes nothing. */
public final class EdgeRefusedTest {
    private static final int NONE = HeathForks.NONE;
    private static final int HIDDEN = HeathForks.HIDDEN;

    public static void main(String[] args) {
        refusedTexts();
        refusedActs();
        refusedQuestions();
        refusedWhenFull();
        askingChangesNothing();
        Check.finish("EdgeRefusedTest");
    }

    private static HeathForks made() {
        HeathForks x = Check.heath("sw3h2a3y2;vd8:rr;ic1;kc2p3;fe1x2;fc5g1;fc4g1w60");
        Check.tell(x, 1, "y:m-d+o");
        Check.tell(x, 2, "0r;1u");
        x.go(0, 0);
        x.go(2, 2);
        x.sink(1);
        x.season();
        x.hear(1, 0, true);
        x.image();
        x.go(1, 2);
        x.law(0);
        return x;
    }

    private static void refused(String call, ToIntFunction<HeathForks> calling, int want) {
        refusedOn(made(), call, calling, want);
    }

    private static void refusedOn(HeathForks x, String call, ToIntFunction<HeathForks> calling, int want) {
        String before = Snapshot.of(x);
        Check.due(call, calling.applyAsInt(x), want);
        Check.due(call + " changes nothing", Snapshot.of(x).equals(before), true);
        x.season();
        Check.due("the image behind " + call, x.back(), 1);
        Check.due("the book of the image behind " + call, x.count(12), 2);
    }

    private static int bool(boolean answer) {
        return answer ? 1 : 0;
    }

    private static void refusedTexts() {
        refused("end(-1)", x -> bool(x.end(-1)), 0);
        refused("end(1)", x -> bool(x.end(1)), 0);
        refused("fault(3)", x -> x.fault(3), -2);
        refused("fault(-1)", x -> x.fault(-1), -2);
        refused("text(3)", x -> x.text(3), NONE);
        refused("text(-1)", x -> x.text(-1), NONE);
        for (int sort = 0; sort < 3; sort++) {
            int of = sort;
            refused("text(" + sort + ") of nothing", x -> x.text(of), NONE);
            refused("fault(" + sort + ") of nothing", x -> x.fault(of), 0);
        }
        refused("law(1)", x -> bool(x.law(1)), 0);
        refused("law(-2)", x -> bool(x.law(-2)), 0);
        HeathForks full = made();
        for (int i = 0; i < 12; i++) {
            full.feed(0x66666666, 0x66666666, 0x66666666, 0x66666666, 0x66666666);
        }
        refusedOn(full, "feed at 240", x -> x.feed(0, 0, 0, 0, 1), NONE);
    }

    private static void refusedActs() {
        for (int way = 0; way < 4; way++) {
            int to = way;
            refused("go(3, " + way + ")", x -> x.go(3, to), NONE);
            refused("go(-1, " + way + ")", x -> x.go(-1, to), NONE);
        }
        refused("go(0, 4)", x -> x.go(0, 4), NONE);
        refused("go(0, -1)", x -> x.go(0, -1), NONE);
        refused("go off the heath", x -> x.go(0, 3), NONE);
        refused("go over the line", x -> x.go(0, 1), NONE);
        refused("sink(6)", x -> x.sink(6), NONE);
        refused("sink(-1)", x -> x.sink(-1), NONE);
        refused("sink(1), a well", x -> x.sink(1), NONE);
        refused("stroll(0)", x -> x.stroll(0, 3), NONE);
        refused("stroll(61)", x -> x.stroll(61, 3), NONE);
        refused("perform(1)", x -> x.perform(1), NONE);
        refused("perform(-1)", x -> x.perform(-1), NONE);
        refused("hear(3, 0)", x -> x.hear(3, 0, true), NONE);
        refused("hear(-1, 0)", x -> x.hear(-1, 0, true), NONE);
        refused("hear(0, 6)", x -> x.hear(0, 6, true), NONE);
        refused("hear(0, -1)", x -> x.hear(0, -1, false), NONE);
    }

    private static void refusedQuestions() {
        refused("rule(4)", x -> x.rule(4), NONE);
        refused("cell(6, 0)", x -> x.cell(6, 0), NONE);
        refused("fork(3, 0)", x -> bool(Check.noSuchFork(x, 3, 0)), 1);
        refused("fork(0, 7)", x -> bool(Check.noSuchFork(x, 0, 7)), 1);
        refused("twitch(0, 6)", x -> x.twitch(0, 6), NONE);
        refused("twitch(3, 0)", x -> x.twitch(3, 0), NONE);
        refused("book(3, 0)", x -> x.book(3, 0), NONE);
        refused("step(1, 0, 0)", x -> x.step(1, 0, 0), NONE);
        refused("step(0, 2, 0)", x -> x.step(0, 2, 0), NONE);
        refused("run(1, 0)", x -> x.run(1, 0), HIDDEN);
        refused("run(0, 2)", x -> x.run(0, 2), HIDDEN);
        refused("brings(0, 0)", x -> x.brings(0, 0), NONE);
        refused("brings(1, 4)", x -> x.brings(1, 4), NONE);
        refused("cheapest(0, 0)", x -> x.cheapest(0, 0), NONE);
        refused("cheapest(41, 0)", x -> x.cheapest(41, 0), NONE);
        refused("cheapest(40, 0)", x -> x.cheapest(40, 0), NONE);
        refused("reach(0, 10)", x -> x.reach(0, 10), NONE);
        refused("trail(2, 0)", x -> x.trail(2, 0), NONE);
        refused("fits(6, -1)", x -> x.fits(6, NONE), NONE);
        refused("sure(1)", x -> x.sure(1), NONE);
        refused("ask(6)", x -> x.ask(6), NONE);
        refused("wrong(1)", x -> x.wrong(1), NONE);
        refused("chance(6)", x -> x.chance(6), NONE);
        refused("wishers(0)", x -> x.wishers(0), NONE);
        refused("right(3)", x -> x.right(3), HIDDEN);
        refused("nearest(3)", x -> x.nearest(3), NONE);
        refused("costs(1)", x -> x.costs(1), NONE);
        refused("loses(1)", x -> x.loses(1), NONE);
        refused("count(14)", x -> x.count(14), HIDDEN);
    }

    private static void refusedWhenFull() {
        HeathForks x = made();
        for (int i = x.count(11); i < 12; i++) {
            x.hear(0, 0, true);
        }
        refusedOn(x, "hear when there are 12", y -> y.hear(0, 1, false), NONE);
        HeathForks laws = made();
        for (int i = 1; i < 4; i++) {
            Check.tell(laws, 1, "y:1");
        }
        Check.tape(laws, "y:2");
        refusedOn(laws, "text(1) when there are four", y -> y.text(1), NONE);
        HeathForks walks = made();
        for (int i = 1; i < 4; i++) {
            Check.tell(walks, 2, "0l");
        }
        Check.tape(walks, "0r");
        refusedOn(walks, "text(2) when there are four", y -> y.text(2), NONE);
        HeathForks back = made();
        back.back();
        refusedOn(back, "undo behind back", y -> y.undo(), NONE);
        HeathForks none = Check.heath("sw3h2;f");
        String before = Snapshot.of(none);
        Check.due("back without image", none.back(), NONE);
        Check.due("undo without acts", none.undo(), NONE);
        Check.due("neither changes a thing", Snapshot.of(none).equals(before), true);
    }

    private static void asked(String call, ToIntFunction<HeathForks> calling) {
        HeathForks x = made();
        String before = Snapshot.of(x);
        int first = calling.applyAsInt(x);
        Check.due(call + " answers", first != NONE && first != HIDDEN, true);
        Check.due(call + " answers the same again", calling.applyAsInt(x), first);
        Check.due(call + " changes nothing", Snapshot.of(x).equals(before), true);
    }

    private static void askingChangesNothing() {
        asked("rule", x -> x.rule(1));
        asked("cell", x -> x.cell(1, 4));
        asked("fork", x -> x.fork(1, 5));
        asked("twitch", x -> x.twitch(1, 5));
        asked("book", x -> x.book(2, 1));
        asked("step", x -> x.step(0, 1, 1));
        asked("run", x -> x.run(0, 0));
        asked("twitches of run", x -> x.run(0, 1));
        asked("brings", x -> x.brings(1, 3));
        asked("brings of all", x -> x.brings(NONE, 0));
        asked("cheapest", x -> x.cheapest(9, 0));
        asked("its cost", x -> x.cheapest(9, 1));
        asked("reach", x -> x.reach(2, 5));
        asked("stuck", x -> x.stuck());
        asked("trail", x -> x.trail(1, 0));
        asked("free", x -> x.trail(1, 1));
        asked("fits", x -> x.fits(3, NONE));
        asked("the first that fits", x -> x.fits(3, 0));
        asked("sure", x -> x.sure(3));
        asked("ask", x -> x.ask(3));
        asked("wrong", x -> x.wrong(3));
        asked("chance", x -> x.chance(3));
        asked("wishers", x -> x.wishers(4));
        asked("right", x -> x.right(0) + 1000);
        asked("best", x -> x.best());
        asked("nearest", x -> x.nearest(1));
        asked("meets", x -> x.meets());
        asked("shallow", x -> x.shallow());
        asked("heap", x -> x.heap());
        asked("costs", x -> x.costs(2));
        asked("loses", x -> x.loses(0));
        asked("driest", x -> x.driest());
        asked("image", x -> x.image());
        asked("feed of nothing", x -> x.feed(0, 0, 0, 0, 0));
        asked("end of all", x -> bool(x.end(x.count(5))));
        asked("the law that holds", x -> bool(x.law(x.count(6))));
    }
}
