import java.math.BigInteger;
import java.util.ArrayDeque;
import java.util.ArrayList;
import java.util.Arrays;
import java.util.HashMap;
import java.util.HashSet;
import java.util.List;
import java.util.Map;
import java.util.Set;
import java.util.TreeMap;

/** The document once more, written as plainly as the Java library allows: whole states copied, all sets tried. */
final class Model {
    static final int NONE = -1;
    static final int HIDDEN = -1000000;
    static final int REFUSED = Integer.MIN_VALUE;

    /** What a heath's text tells. */
    static final class Ground {
        int width = 5;
        int height = 4;
        int deeper = 2;
        int foot = 1;
        List<List<Integer>> veins = new ArrayList<>();
        List<int[]> veinNumbers = new ArrayList<>();
        Map<Integer, Integer> irons = new HashMap<>();
        Map<Integer, Integer> rocks = new HashMap<>();
        List<Map<Character, Integer>> forks = new ArrayList<>();

        int cells() {
            return width * height;
        }

        int beside(int cell, int way) {
            int row = cell / width + new int[] {0, 1, 0, -1}[way];
            int column = cell % width + new int[] {1, 0, -1, 0}[way];
            return row < 0 || row >= height || column < 0 || column >= width ? NONE : row * width + column;
        }

        boolean areBeside(int one, int other) {
            for (int way = 0; way < 4; way++) {
                if (beside(one, way) == other) {
                    return true;
                }
            }
            return false;
        }

        int depth(int cell, int season) {
            int least = NONE;
            for (int i = 0; i < veins.size(); i++) {
                int at = veins.get(i).indexOf(cell);
                if (at >= 0) {
                    int depth = veinNumbers.get(i)[0] + at * veinNumbers.get(i)[1] + new int[] {0, 1, 2, 1}[season] * deeper;
                    depth = Math.min(depth, 99);
                    least = least == NONE ? depth : Math.min(least, depth);
                }
            }
            return least;
        }
    }

    /** What acts change. */
    static final class State {
        int season = 0;
        List<Integer> places = new ArrayList<>();
        List<Integer> pay = new ArrayList<>();
        List<Set<Integer>> were = List.of(new HashSet<>(), new HashSet<>());
        List<int[]> book = new ArrayList<>();
        TreeMap<Integer, Integer> wells = new TreeMap<>();
        int cost = 0;

        State copy() {
            State other = new State();
            other.season = season;
            other.places = new ArrayList<>(places);
            other.pay = new ArrayList<>(pay);
            other.were.get(0).addAll(were.get(0));
            other.were.get(1).addAll(were.get(1));
            other.book = new ArrayList<>(book);
            other.wells = new TreeMap<>(wells);
            other.cost = cost;
            return other;
        }
    }

    StringBuilder tape = new StringBuilder();
    Ground ground = null;
    State now = new State();
    State image = null;
    ArrayDeque<State> before = new ArrayDeque<>();
    List<String> laws = new ArrayList<>();
    List<List<int[]>> walks = new ArrayList<>();
    List<int[]> heard = new ArrayList<>();
    int holds = NONE;

    int feed(int... words) {
        StringBuilder more = new StringBuilder();
        for (int word : words) {
            for (int shift = 24; shift >= 0; shift -= 8) {
                if ((word >> shift & 255) != 0) {
                    more.append((char) (word >> shift & 255));
                }
            }
        }
        if (tape.length() + more.length() > 240) {
            return NONE;
        }
        return tape.append(more).length();
    }

    int end(int n) {
        if (n < 0 || n > tape.length()) {
            return 0;
        }
        tape.setLength(n);
        return 1;
    }

    int fault(int sort) {
        String text = tape.toString();
        return sort == 0 ? ModelTexts.heathFault(text, new Ground())
            : sort == 1 ? ModelTexts.lawFault(text) : sort == 2 ? ModelTexts.walksFault(text) : -2;
    }

    int text(int sort) {
        if (fault(sort) != NONE || sort == 1 && laws.size() == 4 || sort == 2 && walks.size() == 4) {
            return NONE;
        }
        String text = tape.toString();
        tape.setLength(0);
        if (sort == 1) {
            laws.add(text.replace(" ", ""));
            return laws.size() - 1;
        }
        if (sort == 2) {
            List<int[]> steps = new ArrayList<>();
            for (String stretch : text.replace(" ", "").split(";")) {
                for (char way : stretch.substring(1).toCharArray()) {
                    steps.add(new int[] {stretch.charAt(0) - '0', "rdlu".indexOf(way)});
                }
            }
            walks.add(steps);
            return walks.size() - 1;
        }
        ground = new Ground();
        ModelTexts.heathFault(text, ground);
        now = new State();
        image = null;
        before.clear();
        heard.clear();
        for (Map<Character, Integer> fork : ground.forks) {
            now.places.add(fork.get('c'));
            now.pay.add(0);
            now.were.get(fork.get('g')).add(fork.get('c'));
        }
        return ground.cells();
    }

    boolean isCell(int cell) {
        return ground != null && cell >= 0 && cell < ground.cells();
    }

    boolean isFork(int fork) {
        return ground != null && fork >= 0 && fork < ground.forks.size();
    }

    int of(int fork, char letter) {
        return ground.forks.get(fork).get(letter);
    }

    int rule(int what) {
        if (ground == null || what < 0 || what > 3) {
            return NONE;
        }
        return new int[] {ground.width, ground.height, ground.deeper, ground.foot}[what];
    }

    int cell(int cell, int what) {
        if (!isCell(cell) || what < 0 || what > 4) {
            return NONE;
        }
        return new int[] {ground.depth(cell, now.season), ground.irons.getOrDefault(cell, NONE),
            ground.rocks.getOrDefault(cell, 0), now.wells.containsKey(cell) ? 1 : 0,
            now.wells.getOrDefault(cell, 0)}[what];
    }

    int fork(int fork, int what) {
        if (!isFork(fork) || what < 0 || what > 6) {
            return REFUSED;
        }
        if (what == 0) {
            return now.places.get(fork);
        }
        if (what == 6) {
            return now.pay.get(fork);
        }
        int value = of(fork, "cwixeg".charAt(what));
        return what == 3 && value >= ground.cells() ? NONE : value;
    }

    int law(int law) {
        if (law < -1 || law >= laws.size()) {
            return 0;
        }
        holds = law;
        return 1;
    }

    int twitch(int fork, int cell) {
        return isFork(fork) && isCell(cell) ? twitchOn(now, fork, cell) : NONE;
    }

    int twitchOn(State on, int fork, int cell) {
        int depth = ground.depth(cell, on.season);
        int iron = ground.irons.getOrDefault(cell, 99);
        if (holds == NONE) {
            int heeds = depth == NONE ? 0 : of(fork, 'w') - depth + 1;
            int drawn = iron <= of(fork, 'i') ? 10 : 0;
            int wished = of(fork, 'x') == cell ? 5 : 0;
            return Math.max(0, Math.max(heeds, Math.max(drawn, wished)));
        }
        int there = 1;
        for (int other = 0; other < on.places.size(); other++) {
            if (other != fork && on.places.get(other) == cell) {
                there++;
            }
        }
        Map<Character, Long> letters = Map.of('d', (long) (depth == NONE ? 99 : depth), 'm', (long) of(fork, 'w'),
            'i', (long) iron, 'x', of(fork, 'x') == cell ? 1L : 0L, 's', (long) on.season, 'o', (long) there);
        return (int) Math.max(0, Math.min(99, ModelTexts.worth(laws.get(holds), letters)));
    }

    int goal(State on, int fork, int way) {
        if (!isFork(fork) || way < 0 || way > 3) {
            return NONE;
        }
        int to = ground.beside(on.places.get(fork), way);
        return to == NONE || on.were.get(1 - of(fork, 'g')).contains(to) ? NONE : to;
    }

    void remember() {
        before.push(now.copy());
        if (before.size() > 40) {
            before.removeLast();
        }
    }

    int stepOn(State on, int fork, int to, boolean errs) {
        on.places.set(fork, to);
        on.were.get(of(fork, 'g')).add(to);
        int twitch = twitchOn(on, fork, to);
        twitch = !errs ? twitch : twitch > 0 ? 0 : 1;
        on.book.add(0, new int[] {fork, to, twitch});
        if (on.book.size() > 60) {
            on.book.remove(60);
        }
        return twitch;
    }

    int go(int fork, int way) {
        int to = goal(now, fork, way);
        if (to == NONE) {
            return NONE;
        }
        remember();
        return stepOn(now, fork, to, false);
    }

    int costs(int cell) {
        if (!isCell(cell) || now.wells.containsKey(cell)) {
            return NONE;
        }
        return sinkDepth(cell) * (ground.foot + ground.rocks.getOrDefault(cell, 0));
    }

    int sinkDepth(int cell) {
        int depth = ground.depth(cell, now.season);
        return depth == NONE ? 60 : Math.min(60, depth);
    }

    int sink(int cell) {
        int cost = costs(cell);
        if (cost == NONE) {
            return NONE;
        }
        remember();
        int depth = ground.depth(cell, now.season);
        Set<Integer> paid = new HashSet<>();
        for (int[] page : now.book) {
            if (page[1] == cell && page[2] > 0 && depth != NONE && depth <= 60) {
                paid.add(page[0]);
            }
        }
        for (int fork : paid) {
            now.pay.set(fork, now.pay.get(fork) + cost / 10 / paid.size());
        }
        now.wells.put(cell, sinkDepth(cell));
        now.cost += cost;
        return cost;
    }

    int season() {
        if (ground == null) {
            return NONE;
        }
        remember();
        now.season = now.season == 3 ? 0 : now.season + 1;
        return now.season;
    }

    int stroll(int n, long seed) {
        if (ground == null || n < 1 || n > 60) {
            return NONE;
        }
        BigInteger[] x = {BigInteger.valueOf(seed)};
        int gone = 0;
        for (int i = 0; i < n; i++) {
            int fork = draw(x, ground.forks.size());
            int to = goal(now, fork, draw(x, 4));
            if (to == NONE) {
                continue;
            }
            remember();
            stepOn(now, fork, to, draw(x, 10) < of(fork, 'e'));
            gone++;
        }
        return gone;
    }

    private static int draw(BigInteger[] x, int m) {
        x[0] = x[0].multiply(new BigInteger("6364136223846793005")).add(new BigInteger("1442695040888963407"))
            .mod(BigInteger.ONE.shiftLeft(64));
        return x[0].shiftRight(33).mod(BigInteger.valueOf(m)).intValue();
    }

    int undo() {
        if (before.isEmpty()) {
            return NONE;
        }
        now = before.pop();
        return before.size();
    }

    int book(int i, int what) {
        return i < 0 || i >= now.book.size() || what < 0 || what > 2 ? NONE : now.book.get(i)[what];
    }

    int step(int told, int i, int what) {
        if (told < 0 || told >= walks.size() || i < 0 || i >= walks.get(told).size() || what < 0 || what > 1) {
            return NONE;
        }
        return walks.get(told).get(i)[what];
    }

    int run(int told, int what) {
        if (told < 0 || told >= walks.size() || ground == null || what < 0 || what > 1) {
            return HIDDEN;
        }
        State on = now.copy();
        int twitches = 0;
        int done = 0;
        for (int[] step : walks.get(told)) {
            int to = goal(on, step[0], step[1]);
            if (to == NONE) {
                return what == 0 ? done : twitches;
            }
            twitches += stepOn(on, step[0], to, false);
            done++;
        }
        return what == 0 ? NONE : twitches;
    }

    int perform(int told) {
        if (told < 0 || told >= walks.size() || ground == null) {
            return NONE;
        }
        int done = 0;
        for (int[] step : walks.get(told)) {
            if (go(step[0], step[1]) == NONE) {
                return done;
            }
            done++;
        }
        return done;
    }

    int bringsOf(Map<Integer, Integer> wells, int cell, int season) {
        int depth = ground.depth(cell, season);
        if (depth == NONE || depth > wells.get(cell)) {
            return 0;
        }
        int brings = 10 - depth / 10;
        for (int other : wells.keySet()) {
            brings -= ground.areBeside(cell, other) ? 1 : 0;
        }
        return Math.max(0, brings);
    }

    int allBring(Map<Integer, Integer> wells, int season) {
        int sum = 0;
        for (int cell : wells.keySet()) {
            sum += bringsOf(wells, cell, season);
        }
        return sum;
    }

    int brings(int cell, int season) {
        if (ground == null || season < 0 || season > 3 || cell != NONE && !now.wells.containsKey(cell)) {
            return NONE;
        }
        return cell == NONE ? allBring(now.wells, season) : bringsOf(now.wells, cell, season);
    }

    int cheapest(int n, int what) {
        if (ground == null || n < 1 || n > 40 || what < 0 || what > 1) {
            return NONE;
        }
        int[] best = null;
        int cells = ground.cells();
        for (int a = -1; a < cells; a++) {
            for (int b = a == -1 ? -1 : a; b < cells; b++) {
                for (int c = b == -1 ? -1 : b; c < cells; c++) {
                    int[] found = setOf(n, a, b, c);
                    if (found != null && (best == null || Arrays.compare(found, best) < 0)) {
                        best = found;
                    }
                }
            }
        }
        return best == null ? NONE : what == 0 ? best[2] : best[0];
    }

    /** Cost, size and bits of the set of those that are not -1, null if it is not enough. */
    private int[] setOf(int n, int... chosen) {
        Map<Integer, Integer> wells = new TreeMap<>(now.wells);
        int cost = 0;
        int bits = 0;
        for (int cell : chosen) {
            if (cell == -1 || (bits >> cell & 1) == 1) {
                continue;
            }
            int depth = ground.depth(cell, 2);
            if (now.wells.containsKey(cell) || depth == NONE || depth > 60) {
                return null;
            }
            wells.put(cell, depth);
            cost += depth * (ground.foot + ground.rocks.getOrDefault(cell, 0));
            bits |= 1 << cell;
        }
        return allBring(wells, 2) < n ? null : new int[] {cost, Integer.bitCount(bits), bits};
    }

    int reach(int fork, int n) {
        if (!isFork(fork) || n < 0 || n > 9) {
            return NONE;
        }
        Set<Integer> found = new HashSet<>(Set.of(now.places.get(fork)));
        for (int i = 0; i < n; i++) {
            for (int cell : new ArrayList<>(found)) {
                for (int way = 0; way < 4; way++) {
                    int to = ground.beside(cell, way);
                    if (to != NONE && !now.were.get(1 - of(fork, 'g')).contains(to)) {
                        found.add(to);
                    }
                }
            }
        }
        return bits(found);
    }

    static int bits(Iterable<Integer> cells) {
        int bits = 0;
        for (int cell : cells) {
            bits |= 1 << cell;
        }
        return bits;
    }

    int stuck() {
        if (ground == null) {
            return NONE;
        }
        Set<Integer> found = new HashSet<>();
        for (int fork = 0; fork < ground.forks.size(); fork++) {
            boolean goes = false;
            for (int way = 0; way < 4; way++) {
                goes |= goal(now, fork, way) != NONE;
            }
            if (!goes) {
                found.add(fork);
            }
        }
        return bits(found);
    }

    int trail(int guild, int what) {
        if (ground == null || guild < 0 || guild > 1 || what < 0 || what > 1) {
            return NONE;
        }
        Set<Integer> free = new HashSet<>();
        for (int cell = 0; cell < ground.cells(); cell++) {
            if (!now.were.get(1 - guild).contains(cell)) {
                free.add(cell);
            }
        }
        return what == 0 ? bits(now.were.get(guild)) : bits(free);
    }

    int hear(int fork, int cell, boolean water) {
        if (!isFork(fork) || !isCell(cell) || heard.size() == 12) {
            return NONE;
        }
        heard.add(new int[] {fork, cell, water ? 1 : 0});
        return heard.size();
    }

    /** The veins of n cells that fit what all but one fork said, by their codes. */
    TreeMap<Integer, Set<Integer>> fitting(int n, int without) {
        TreeMap<Integer, Set<Integer>> veins = new TreeMap<>();
        for (int from = 0; from < ground.cells(); from++) {
            grow(veins, from, from, n - 1, 0, new HashSet<>(Set.of(from)));
        }
        for (int[] said : heard) {
            if (said[0] != without) {
                veins.values().removeIf(vein -> vein.contains(said[1]) != (said[2] == 1));
            }
        }
        return veins;
    }

    private void grow(Map<Integer, Set<Integer>> veins, int from, int at, int left, int turns, Set<Integer> cells) {
        if (left == 0) {
            veins.put(100 * from + turns, cells);
            return;
        }
        for (int way = 0; way < 2; way++) {
            int to = ground.beside(at, way);
            if (to != NONE) {
                Set<Integer> more = new HashSet<>(cells);
                more.add(to);
                grow(veins, from, to, left - 1, turns * 2 + way, more);
            }
        }
    }

    boolean scans(int n) {
        return ground != null && n >= 2 && n <= 5;
    }

    int fits(int n, int i) {
        if (!scans(n)) {
            return NONE;
        }
        List<Integer> codes = new ArrayList<>(fitting(n, NONE).keySet());
        return i == NONE ? codes.size() : i < 0 || i >= codes.size() ? NONE : codes.get(i);
    }

    int sure(int n) {
        if (!scans(n) || fitting(n, NONE).isEmpty()) {
            return NONE;
        }
        int all = -1;
        for (Set<Integer> vein : fitting(n, NONE).values()) {
            all &= bits(vein);
        }
        return all;
    }

    int ask(int n) {
        if (!scans(n) || fitting(n, NONE).isEmpty()) {
            return NONE;
        }
        int best = NONE;
        int least = 0;
        for (int cell = 0; cell < ground.cells(); cell++) {
            int apart = 0;
            for (Set<Integer> vein : fitting(n, NONE).values()) {
                apart += vein.contains(cell) ? 1 : -1;
            }
            if (best == NONE || Math.abs(apart) < least) {
                best = cell;
                least = Math.abs(apart);
            }
        }
        return best;
    }

    int wrong(int n) {
        if (!scans(n)) {
            return NONE;
        }
        Set<Integer> found = new HashSet<>();
        for (int fork = 0; fork < ground.forks.size(); fork++) {
            if (fitting(n, NONE).isEmpty() && !fitting(n, fork).isEmpty()) {
                found.add(fork);
            }
        }
        return bits(found);
    }

    int chance(int cell) {
        if (!isCell(cell)) {
            return NONE;
        }
        Map<Integer, Integer> latest = new HashMap<>();
        for (int[] page : now.book) {
            if (page[1] == cell) {
                latest.putIfAbsent(page[0], page[2]);
            }
        }
        BigInteger yes = BigInteger.ONE;
        BigInteger no = BigInteger.ONE;
        for (int fork : latest.keySet()) {
            BigInteger right = BigInteger.valueOf(10 - of(fork, 'e'));
            BigInteger wrong = BigInteger.valueOf(of(fork, 'e'));
            yes = yes.multiply(latest.get(fork) > 0 ? right : wrong);
            no = no.multiply(latest.get(fork) > 0 ? wrong : right);
        }
        BigInteger both = yes.add(no);
        return both.signum() == 0 ? NONE : yes.multiply(BigInteger.valueOf(1000000)).divide(both).intValue();
    }

    int wishers(int cell) {
        if (!isCell(cell) || ground.depth(cell, 0) != NONE || ground.irons.containsKey(cell)) {
            return NONE;
        }
        Set<Integer> found = new HashSet<>();
        for (int fork = 0; fork < ground.forks.size(); fork++) {
            if (twitch(fork, cell) > 0) {
                found.add(fork);
            }
        }
        return bits(found);
    }

    int right(int fork) {
        if (!isFork(fork)) {
            return HIDDEN;
        }
        int sum = 0;
        for (int[] page : now.book) {
            if (page[0] == fork && page[2] > 0) {
                int depth = ground.depth(page[1], now.season);
                sum += depth != NONE && depth <= of(fork, 'w') ? 1 : -1;
            }
        }
        return sum;
    }

    int best() {
        int best = NONE;
        for (int fork = 0; isFork(fork); fork++) {
            best = best == NONE || right(fork) > right(best) ? fork : best;
        }
        return best;
    }

    int nearest(int fork) {
        if (!isFork(fork)) {
            return NONE;
        }
        Set<Integer> seen = new HashSet<>(Set.of(now.places.get(fork)));
        for (int far = 0; far <= 9; far++) {
            for (int cell : seen) {
                if (ground.depth(cell, 0) != NONE) {
                    return far;
                }
            }
            for (int cell : new ArrayList<>(seen)) {
                for (int way = 0; way < 4; way++) {
                    if (ground.beside(cell, way) != NONE) {
                        seen.add(ground.beside(cell, way));
                    }
                }
            }
        }
        return NONE;
    }

    int meets() {
        if (ground == null) {
            return NONE;
        }
        Set<Integer> found = new HashSet<>();
        for (int cell = 0; cell < ground.cells(); cell++) {
            int veins = 0;
            for (List<Integer> vein : ground.veins) {
                veins += vein.contains(cell) ? 1 : 0;
            }
            if (veins >= 2) {
                found.add(cell);
            }
        }
        return bits(found);
    }

    int shallow() {
        for (int depth = 1; ground != null && depth <= 99; depth++) {
            for (int cell = 0; cell < ground.cells(); cell++) {
                if (ground.depth(cell, now.season) == depth) {
                    return cell;
                }
            }
        }
        return NONE;
    }

    int heap() {
        int[] twitches = new int[30];
        for (int[] page : now.book) {
            twitches[page[1]] += page[2] > 0 ? 1 : 0;
        }
        for (int most = 60; most > 0; most--) {
            for (int cell = 0; cell < 30; cell++) {
                if (twitches[cell] == most) {
                    return cell;
                }
            }
        }
        return NONE;
    }

    int loses(int cell) {
        if (costs(cell) == NONE) {
            return NONE;
        }
        TreeMap<Integer, Integer> wells = new TreeMap<>(now.wells);
        wells.put(cell, sinkDepth(cell));
        return allBring(now.wells, now.season) - (allBring(wells, now.season) - bringsOf(wells, cell, now.season));
    }

    int richest() {
        int best = NONE;
        for (int fork = 0; isFork(fork); fork++) {
            if (now.pay.get(fork) > (best == NONE ? 0 : now.pay.get(best))) {
                best = fork;
            }
        }
        return best;
    }

    int driest() {
        int best = ground == null ? NONE : 0;
        for (int season = 1; ground != null && season < 4; season++) {
            best = allBring(now.wells, season) < allBring(now.wells, best) ? season : best;
        }
        return best;
    }

    int image() {
        if (ground == null) {
            return NONE;
        }
        image = now.copy();
        return now.season;
    }

    int back() {
        if (image == null) {
            return NONE;
        }
        now = image.copy();
        before.clear();
        return now.season;
    }

    int count(int what) {
        if (what < 0 || what > 13) {
            return HIDDEN;
        }
        int pay = 0;
        for (int each : now.pay) {
            pay += each;
        }
        return new int[] {ground == null ? 0 : ground.cells(), ground == null ? 0 : ground.veins.size(),
            ground == null ? 0 : ground.forks.size(), laws.size(), walks.size(), tape.length(), holds, now.season,
            bits(now.wells.keySet()), pay, now.cost, heard.size(), now.book.size(), before.size()}[what];
    }
}
