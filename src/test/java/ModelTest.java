import java.util.NoSuchElementException;
import java.util.Random;

/** All promises: runs of calls by chance (always the same ones) on the class and on the model. */
public final class ModelTest {
    private static final int RUNS = 1250;
    private static final int TEXTS = 6000;

    private static Random random;

    public static void main(String[] args) {
        random = new Random(20261118);
        for (int i = 0; i < TEXTS && Check.wrongSoFar() < 20; i++) {
            compareFaults(i % 3);
        }
        for (int run = 0; run < RUNS && Check.wrongSoFar() < 20; run++) {
            random = new Random(run);
            compareRun(run);
        }
        Check.finish("ModelTest");
    }

    private static int pick(int bound) {
        return random.nextInt(bound);
    }

    private static int from(int least, int most) {
        return least + pick(most - least + 1);
    }

    private static void compareFaults(int sort) {
        String text = spoiled(sort == 0 ? heathText() : sort == 1 ? lawText() : walksText(), pick(3));
        text = text.substring(0, Math.min(text.length(), 240));
        HeathForks x = new HeathForks();
        Model model = new Model();
        Check.tape(x, text);
        model.tape.append(text);
        for (int other = 0; other < 3; other++) {
            Check.due("fault(" + other + ") of '" + text + "'", x.fault(other), model.fault(other));
        }
    }

    private static String spoiled(String text, int times) {
        StringBuilder spoiled = new StringBuilder(text);
        String signs = "svikfcdwhayxegprdlu0123456789:;;  ?!()[]|&=<>+-*/mios\u00e9";
        for (int i = 0; i < times; i++) {
            int at = pick(spoiled.length() + 1);
            char sign = signs.charAt(pick(signs.length()));
            int how = pick(3);
            if (how == 0 || at == spoiled.length()) {
                spoiled.insert(at, sign);
            } else if (how == 1) {
                spoiled.deleteCharAt(at);
            } else {
                spoiled.setCharAt(at, sign);
            }
        }
        return spoiled.toString();
    }

    private static String blank() {
        return pick(12) == 0 ? " " : "";
    }

    private static String item(String letter, int least, int most) {
        return pick(3) == 0 ? "" : letter + blank() + from(least, most) + blank();
    }

    private static String ways(int most) {
        StringBuilder ways = new StringBuilder();
        int many = from(1, most);
        for (int i = 0; i < many; i++) {
            ways.append("rdlu".charAt(pick(4))).append(blank());
        }
        return ways.toString();
    }

    private static String heathText() {
        StringBuilder text = new StringBuilder();
        int width = from(1, 6);
        int height = from(1, 5);
        int last = width * height - 1;
        text.append("sw").append(width).append("h").append(height).append(item("a", 0, 9)).append(item("y", 1, 9));
        for (int i = pick(5); i > 0; i--) {
            text.append(";v").append(item("c", 0, last)).append(item("d", 1, pick(2) == 0 ? 20 : 60))
                .append(item("f", 0, 9)).append(pick(2) == 0 ? "" : ":" + course(width, height));
        }
        for (int i = pick(3); i > 0; i--) {
            text.append(";ic").append(from(0, last)).append(item("d", 1, 9));
            text.append(";kc").append(from(0, last)).append(item("p", 1, 9));
        }
        for (int i = from(1, 6); i > 0; i--) {
            text.append(";").append(blank()).append("f").append("c").append(from(0, last)).append(item("w", 0, 60))
                .append(item("i", 0, 9)).append(item("x", 0, 30)).append(item("e", 0, 9)).append(item("g", 0, 1));
        }
        return text.toString();
    }

    /** Mostly one that a vein from the first cell can have. */
    private static String course(int width, int height) {
        if (pick(8) == 0) {
            return ways(8);
        }
        StringBuilder course = new StringBuilder();
        int row = 0;
        int column = 0;
        for (int i = from(1, 8); i > 0; i--) {
            if (pick(2) == 0 && column + 1 < width) {
                course.append('r');
                column++;
            } else if (pick(2) == 0 && row + 1 < height) {
                course.append('d');
                row++;
            } else if (column > 0) {
                course.append('l');
                column--;
            }
        }
        return course.length() == 0 ? "r" : course.toString();
    }

    private static String lawText() {
        StringBuilder text = new StringBuilder();
        for (int i = from(1, 3); i > 0; i--) {
            text.append(text.length() == 0 ? "" : ";").append(blank()).append("y").append(blank()).append(":");
            if (pick(2) == 0) {
                text.append(conditionText(3)).append("?");
            }
            text.append(sumText(3));
        }
        return text.length() > 230 ? "y:d*2-m" : text.toString();
    }

    private static String conditionText(int depth) {
        StringBuilder text = new StringBuilder(unitText(depth));
        while (pick(3) == 0) {
            text.append(blank()).append(pick(2) == 0 ? "&" : "|").append(unitText(depth));
        }
        return text.toString();
    }

    private static String unitText(int depth) {
        if (depth > 0 && pick(4) == 0) {
            return "!" + blank() + unitText(depth - 1);
        }
        if (depth > 0 && pick(4) == 0) {
            return "(" + conditionText(depth - 1) + ")" + blank();
        }
        return sumText(depth - 1) + "=<>".charAt(pick(3)) + sumText(depth - 1);
    }

    private static String sumText(int depth) {
        StringBuilder text = new StringBuilder(atomText(depth));
        while (pick(5) < 2) {
            text.append("+-*/".charAt(pick(4))).append(blank()).append(atomText(depth));
        }
        return text.toString();
    }

    private static String atomText(int depth) {
        if (depth > 0 && pick(4) == 0) {
            return "[" + sumText(depth - 1) + "]" + blank();
        }
        return pick(2) == 0 ? "" + "dmixso".charAt(pick(6)) : "" + pick(pick(4) == 0 ? 10000 : 20);
    }

    private static String walksText() {
        StringBuilder text = new StringBuilder();
        for (int i = from(1, 8); i > 0; i--) {
            text.append(text.length() == 0 ? "" : ";").append(blank()).append(pick(pick(5) == 0 ? 8 : 3)).append(ways(8));
        }
        return text.toString();
    }

    private static void compareRun(int run) {
        HeathForks x = new HeathForks();
        Model model = new Model();
        if (pick(10) > 0) {
            tell(x, model, run, 0, heathText());
        }
        for (int i = 0; i < 140; i++) {
            if (pick(30) == 0) {
                int sort = pick(40) == 0 ? 0 : from(1, 2);
                tell(x, model, run, sort, sort == 0 ? heathText() : sort == 1 ? lawText() : walksText());
            } else if (pick(2) == 0) {
                act(x, model, run);
            } else {
                ask(x, model, run);
            }
            if (pick(4) == 0) {
                int what = from(-1, 14);
                Check.due("run " + run + ": count(" + what + ")", x.count(what), model.count(what));
            }
        }
    }

    private static void tell(HeathForks x, Model model, int run, int sort, String text) {
        x.end(0);
        model.end(0);
        for (int i = 0; i < text.length(); i += 20) {
            int[] words = new int[5];
            for (int j = 0; j < 5; j++) {
                words[j] = Check.word(text, i + 4 * j);
            }
            Check.due("run " + run + ": feed", x.feed(words[0], words[1], words[2], words[3], words[4]), model.feed(words));
        }
        Check.due("run " + run + ": fault of '" + text + "'", x.fault(sort), model.fault(sort));
        Check.due("run " + run + ": text(" + sort + ") '" + text + "'", x.text(sort), model.text(sort));
    }

    private static int fork() {
        return pick(8) == 0 ? from(-2, 7) : pick(3);
    }

    private static int cell() {
        return pick(8) == 0 ? from(-2, 31) : pick(2) == 0 ? pick(6) : pick(20);
    }

    private static void act(HeathForks x, Model model, int run) {
        String at = "run " + run + ": ";
        int fork = fork();
        int cell = cell();
        switch (pick(12)) {
            case 0: case 1: case 2: case 3: {
                int way = pick(20) == 0 ? from(-1, 4) : pick(4);
                Check.due(at + "go(" + fork + ", " + way + ")", x.go(fork, way), model.go(fork, way));
                break;
            }
            case 4:
                Check.due(at + "sink(" + cell + ")", x.sink(cell), model.sink(cell));
                break;
            case 5:
                Check.due(at + "season()", x.season(), model.season());
                break;
            case 6: {
                int n = pick(5) == 0 ? from(-1, 62) : from(1, 9);
                long seed = random.nextLong();
                Check.due(at + "stroll(" + n + ", " + seed + ")", x.stroll(n, seed), model.stroll(n, seed));
                break;
            }
            case 7: {
                int many = pick(6) == 0 ? 45 : 1;
                for (int i = 0; i < many; i++) {
                    Check.due(at + "undo()", x.undo(), model.undo());
                }
                break;
            }
            case 8: {
                int walks = from(-1, 4);
                Check.due(at + "perform(" + walks + ")", x.perform(walks), model.perform(walks));
                break;
            }
            case 9: {
                boolean water = random.nextBoolean();
                Check.due(at + "hear(" + fork + ", " + cell + ", " + water + ")",
                    x.hear(fork, cell, water), model.hear(fork, cell, water));
                break;
            }
            case 10: {
                int law = from(-2, 4);
                Check.due(at + "law(" + law + ")", x.law(law) ? 1 : 0, model.law(law));
                break;
            }
            default:
                if (pick(2) == 0) {
                    Check.due(at + "image()", x.image(), model.image());
                } else if (pick(3) == 0) {
                    Check.due(at + "back()", x.back(), model.back());
                } else if (pick(3) == 0) {
                    int n = from(-1, 30);
                    Check.due(at + "end(" + n + ")", x.end(n) ? 1 : 0, model.end(n));
                }
                break;
        }
    }

    private static void ask(HeathForks x, Model model, int run) {
        if (pick(2) == 0) {
            askOfGround(x, model, "run " + run + ": ");
        } else {
            askOfMoor(x, model, "run " + run + ": ");
        }
    }

    private static int forkOf(HeathForks x, int fork, int what) {
        try {
            return x.fork(fork, what);
        } catch (NoSuchElementException e) {
            return Model.REFUSED;
        }
    }

    private static void askOfGround(HeathForks x, Model model, String at) {
        int fork = fork();
        int cell = cell();
        int what = from(-1, 7);
        int n = pick(6) == 0 ? from(0, 7) : from(2, 5);
        int i = pick(3) == 0 ? -1 : from(-2, 60);
        switch (pick(14)) {
            case 0:
                Check.due(at + "rule(" + what + ")", x.rule(what), model.rule(what));
                break;
            case 1:
                Check.due(at + "cell(" + cell + ", " + what + ")", x.cell(cell, what), model.cell(cell, what));
                break;
            case 2:
                Check.due(at + "fork(" + fork + ", " + what + ")", forkOf(x, fork, what), model.fork(fork, what));
                break;
            case 3:
                Check.due(at + "twitch(" + fork + ", " + cell + ")", x.twitch(fork, cell), model.twitch(fork, cell));
                break;
            case 4:
                Check.due(at + "nearest(" + fork + ")", x.nearest(fork), model.nearest(fork));
                break;
            case 5:
                Check.due(at + "meets()", x.meets(), model.meets());
                break;
            case 6:
                Check.due(at + "shallow()", x.shallow(), model.shallow());
                break;
            case 7:
                Check.due(at + "wishers(" + cell + ")", x.wishers(cell), model.wishers(cell));
                break;
            case 8:
                Check.due(at + "fits(" + n + ", " + i + ")", x.fits(n, i), model.fits(n, i));
                break;
            case 9:
                Check.due(at + "sure(" + n + ")", x.sure(n), model.sure(n));
                break;
            case 10:
                Check.due(at + "ask(" + n + ")", x.ask(n), model.ask(n));
                break;
            case 11:
                Check.due(at + "wrong(" + n + ")", x.wrong(n), model.wrong(n));
                break;
            case 12:
                Check.due(at + "step(" + what + ", " + i + ", " + (what & 1) + ")",
                    x.step(what, i, what & 1), model.step(what, i, what & 1));
                break;
            default: {
                int walks = pick(4);
                int of = pick(8) == 0 ? what : pick(2);
                Check.due(at + "run(" + walks + ", " + of + ")", x.run(walks, of), model.run(walks, of));
                break;
            }
        }
    }

    private static void askOfMoor(HeathForks x, Model model, String at) {
        int fork = fork();
        int cell = cell();
        int what = pick(6) == 0 ? from(-1, 4) : pick(2);
        int n = from(-1, 10);
        switch (pick(15)) {
            case 0:
                Check.due(at + "book(" + n * n + ", " + what + ")", x.book(n * n, what), model.book(n * n, what));
                break;
            case 1: {
                int of = pick(3) == 0 ? -1 : cell;
                Check.due(at + "brings(" + of + ", " + n / 2 + ")", x.brings(of, n / 2), model.brings(of, n / 2));
                break;
            }
            case 2: {
                int many = pick(8) == 0 ? from(-1, 42) : from(1, 30);
                if (pick(3) == 0) {
                    Check.due(at + "cheapest(" + many + ", " + what + ")", x.cheapest(many, what), model.cheapest(many, what));
                }
                break;
            }
            case 3:
                Check.due(at + "reach(" + fork + ", " + n + ")", x.reach(fork, n), model.reach(fork, n));
                break;
            case 4:
                Check.due(at + "stuck()", x.stuck(), model.stuck());
                break;
            case 5:
                Check.due(at + "trail(" + what + ", " + n % 3 + ")", x.trail(what, n % 3), model.trail(what, n % 3));
                break;
            case 6:
                Check.due(at + "chance(" + cell + ")", x.chance(cell), model.chance(cell));
                break;
            case 7:
                Check.due(at + "right(" + fork + ")", x.right(fork), model.right(fork));
                break;
            case 8:
                Check.due(at + "best()", x.best(), model.best());
                break;
            case 9:
                Check.due(at + "heap()", x.heap(), model.heap());
                break;
            case 10:
                Check.due(at + "costs(" + cell + ")", x.costs(cell), model.costs(cell));
                break;
            case 11:
                Check.due(at + "loses(" + cell + ")", x.loses(cell), model.loses(cell));
                break;
            case 12:
                Check.due(at + "richest()", x.richest(), model.richest());
                break;
            case 13:
                Check.due(at + "driest()", x.driest(), model.driest());
                break;
            default:
                Check.due(at + "book(" + n + ", 2)", x.book(n, 2), model.book(n, 2));
                break;
        }
    }
}
