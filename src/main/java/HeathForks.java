import java.util.NoSuchElementException;

/** Forks over one heath: the document's promises 1 to 44 stand beside the methods that keep them. */
public final class HeathForks {
    public static final int NONE = -1;
    public static final int HIDDEN = -1000000;

    private static final int TAPE_ROOM = 240;
    private static final int CELL_ROOM = 30;
    private static final int FORK_ROOM = 6;
    private static final int VEIN_ROOM = 4;
    private static final int TOLD_ROOM = 4;
    private static final int BOOK_ROOM = 60;
    private static final int ACT_ROOM = 40;
    private static final int HEARD_ROOM = 12;
    private static final int WAYS_ROOM = 8;
    private static final int STRETCH_ROOM = 8;
    private static final int STACK_ROOM = 64;
    private static final int FIT_ROOM = 480;

    private static final int WAYS = 4;
    private static final int SEASONS = 4;
    private static final int DRY_SEASON = 2;
    private static final int DEEPEST_WELL = 60;
    private static final int DEEPEST_WATER = 99;
    private static final int NO_DEPTH = 99;
    private static final int MOST_TWITCH = 99;
    private static final int MOST_STROLL = 60;
    private static final int MOST_NESTED = 6;
    private static final int WHOLE_CHANCE = 1000000;
    private static final int FAR_NUMBER = 1000000;

    private static final int BLANK = 32;
    private static final int TEXT_END = -1;
    private static final String WAY_LETTERS = "rdlu";

    // What a heath's clauses may hold: a row of ITEM_ROOM for each kind, in the order of KIND_LETTERS.
    private static final String KIND_LETTERS = "svikf";
    private static final int RULES = 0;
    private static final int VEIN = 1;
    private static final int IRON = 2;
    private static final int ROCK = 3;
    private static final int FORK = 4;
    private static final int KIND_ROOM = 5;
    private static final int ITEM_ROOM = 6;
    private static final int CLAUSE_ROOM = 6;
    private static final int[] KIND_MOST = {1, 4, 6, 6, 6};
    private static final int[] ITEM_LEAST = {
        1, 1, 0, 1, 0, 0, 0, 1, 0, 0, 0, 0, 0, 1, 0, 0, 0, 0, 0, 1, 0, 0, 0, 0, 0, 0, 0, 0, 0, 0};
    private static final int[] ITEM_MOST = {
        6, 5, 9, 9, 0, 0, 29, 60, 9, 0, 0, 0, 29, 9, 0, 0, 0, 0, 29, 9, 0, 0, 0, 0, 29, 60, 9, 30, 9, 1};
    private static final int[] ITEM_WITHOUT = {
        5, 4, 2, 1, 0, 0, 0, 20, 0, 0, 0, 0, 0, 2, 0, 0, 0, 0, 0, 1, 0, 0, 0, 0, 0, 30, 0, 30, 0, 0};

    // What a fork's clause holds, as its items and as fork(..) counts them.
    private static final int PLACE = 0;
    private static final int WATER_HEED = 1;
    private static final int IRON_HEED = 2;
    private static final int WISH = 3;
    private static final int ERRS = 4;
    private static final int GUILD = 5;
    private static final int PAY = 6;

    // A law's code: numbers as they are, letters as -1 .. -6, signs below those.
    private static final String LAW_LETTERS = "dmixso";
    private static final int LETTER_ROOM = 6;
    private static final int PLUS = -7;
    private static final int LESS = -8;
    private static final int TIMES = -9;
    private static final int OVER = -10;
    private static final int SAME = -11;
    private static final int BELOW = -12;
    private static final int ABOVE = -13;
    private static final int BOTH = -14;
    private static final int EITHER = -15;
    private static final int NOT = -16;
    private static final int WHEN = -17;
    private static final int CLAUSE_END = -18;

    private static final int STEPPED = 0;
    private static final int SUNK = 1;
    private static final int TURNED = 2;

    private final Tape tape = new Tape();
    private final HeathReader heathReader = new HeathReader();
    private final LawReader lawReader = new LawReader();
    private final WalksReader walksReader = new WalksReader();
    private final Law[] laws = new Law[TOLD_ROOM];
    private final Walks[] walksTold = new Walks[TOLD_ROOM];
    private final int[] letters = new int[LETTER_ROOM];
    private final Moor moor = new Moor();
    private final Moor kept = new Moor();
    private final Moor apart = new Moor();
    private final Acts acts = new Acts();
    private final Heard heard = new Heard();
    private final WellPlan plan = new WellPlan();
    private Heath heath = new Heath();
    private int lawCount = 0;
    private int walksCount = 0;
    private int holding = NONE;
    private boolean imaged = false;

    // Promise 1
    public HeathForks() {
        for (int i = 0; i < TOLD_ROOM; i++) {
            laws[i] = new Law();
            walksTold[i] = new Walks();
        }
    }

    // Promise 2
    public int feed(int a, int b, int c, int d, int e) {
        int more = Tape.bytesIn(a) + Tape.bytesIn(b) + Tape.bytesIn(c) + Tape.bytesIn(d) + Tape.bytesIn(e);
        if (tape.length + more > TAPE_ROOM) {
            return NONE;
        }
        tape.append(a);
        tape.append(b);
        tape.append(c);
        tape.append(d);
        tape.append(e);
        return tape.length;
    }

    // Promise 3
    public boolean end(int n) {
        if (n < 0 || n > tape.length) {
            return false;
        }
        tape.length = n;
        return true;
    }

    // Promise 4
    public int fault(int sort) {
        switch (sort) {
            case 0:
                return heathReader.faultOf(tape);
            case 1:
                return lawReader.faultOf(tape);
            case 2:
                return walksReader.faultOf(tape);
            default:
                return -2;
        }
    }

    // Promise 5
    public int text(int sort) {
        switch (sort) {
            case 0:
                return heathReader.faultOf(tape) == NONE ? takeHeath() : NONE;
            case 1:
                return lawReader.faultOf(tape) == NONE ? takeLaw() : NONE;
            case 2:
                return walksReader.faultOf(tape) == NONE ? takeWalks() : NONE;
            default:
                return NONE;
        }
    }

    // Promise 6
    public int rule(int what) {
        if (!hasHeath()) {
            return NONE;
        }
        switch (what) {
            case 0:
                return heath.width;
            case 1:
                return heath.height;
            case 2:
                return heath.deeper;
            case 3:
                return heath.foot;
            default:
                return NONE;
        }
    }

    // Promise 7
    public int cell(int cell, int what) {
        if (!heath.isCell(cell)) {
            return NONE;
        }
        switch (what) {
            case 0:
                return heath.waterIn(cell, moor.season);
            case 1:
                return heath.ironIn(cell);
            case 2:
                return heath.rockIn(cell);
            case 3:
                return holds(moor.wells, cell) ? 1 : 0;
            case 4:
                return moor.sunkTo(cell);
            default:
                return NONE;
        }
    }

    // Promise 8
    public int fork(int fork, int what) throws NoSuchElementException {
        if (!heath.isFork(fork) || what < PLACE || what > PAY) {
            throw new NoSuchElementException("no such fork, or nothing of a fork");
        }
        if (what == PLACE) {
            return moor.placeOf(fork);
        }
        if (what == PAY) {
            return moor.payOf(fork);
        }
        return heath.trait(fork, what);
    }

    // Promise 9
    public boolean law(int law) {
        if (law < NONE || law >= lawCount) {
            return false;
        }
        holding = law;
        return true;
    }

    // Promise 10
    public int twitch(int fork, int cell) {
        if (!heath.isFork(fork) || !heath.isCell(cell)) {
            return NONE;
        }
        return twitchIn(moor, fork, cell);
    }

    // Promise 11
    public int go(int fork, int way) {
        int to = goal(moor, fork, way);
        return to == NONE ? NONE : stepTo(fork, to, false);
    }

    // Promise 12
    public int sink(int cell) {
        if (!canSink(cell)) {
            return NONE;
        }
        int price = priceNow(cell);
        int paid = isWet(cell) ? moor.twitchersIn(cell) : 0;
        int share = paid == 0 ? 0 : price / 10 / Integer.bitCount(paid);
        acts.add(SUNK, cell, paid, share);
        moor.addWell(cell, wellDepth(cell), price);
        moor.addPay(paid, share);
        return price;
    }

    // Promise 13
    public int season() {
        if (!hasHeath()) {
            return NONE;
        }
        acts.add(TURNED, 0, 0, 0);
        moor.season = (moor.season + 1) % SEASONS;
        return moor.season;
    }

    // Promise 14
    public int stroll(int n, long seed) {
        if (!hasHeath() || n < 1 || n > MOST_STROLL) {
            return NONE;
        }
        long x = seed;
        int gone = 0;
        for (int i = 0; i < n; i++) {
            x = turned(x);
            int fork = drawn(x, heath.forks);
            x = turned(x);
            int to = goal(moor, fork, drawn(x, WAYS));
            if (to != NONE) {
                x = turned(x);
                stepTo(fork, to, drawn(x, 10) < heath.trait(fork, ERRS));
                gone++;
            }
        }
        return gone;
    }

    // Promise 15
    public int undo() {
        if (acts.number == 0) {
            return NONE;
        }
        int kind = acts.latest(Acts.KIND);
        int one = acts.latest(Acts.ONE);
        int two = acts.latest(Acts.TWO);
        int three = acts.latest(Acts.THREE);
        acts.drop();
        if (kind == STEPPED) {
            moor.unstep(one, two, heath.trait(one, GUILD), three);
        } else if (kind == SUNK) {
            moor.addPay(two, -three);
            moor.dropWell(one, moor.sunkTo(one) * footPrice(one));
        } else {
            moor.season = (moor.season + SEASONS - 1) % SEASONS;
        }
        return acts.number;
    }

    // Promise 16
    public int book(int i, int what) {
        if (i < 0 || i >= moor.bookLength()) {
            return NONE;
        }
        switch (what) {
            case 0:
                return moor.forkOn(i);
            case 1:
                return moor.cellOn(i);
            case 2:
                return moor.twitchOn(i);
            default:
                return NONE;
        }
    }

    // Promise 17
    public int step(int walks, int i, int what) {
        if (!hasWalks(walks)) {
            return NONE;
        }
        Walks told = walksTold[walks];
        if (i < 0 || i >= told.length) {
            return NONE;
        }
        if (what == 0) {
            return told.forkAt(i);
        }
        return what == 1 ? told.wayAt(i) : NONE;
    }

    // Promise 18
    public int run(int walks, int what) {
        if (!hasHeath() || !hasWalks(walks) || what < 0 || what > 1) {
            return HIDDEN;
        }
        Walks told = walksTold[walks];
        apart.copy(moor);
        int twitches = 0;
        for (int i = 0; i < told.length; i++) {
            int fork = told.forkAt(i);
            int to = goal(apart, fork, told.wayAt(i));
            if (to == NONE) {
                return what == 0 ? i : twitches;
            }
            apart.move(fork, to, heath.trait(fork, GUILD));
            twitches += twitchIn(apart, fork, to);
        }
        return what == 0 ? NONE : twitches;
    }

    // Promise 19
    public int perform(int walks) {
        if (!hasHeath() || !hasWalks(walks)) {
            return NONE;
        }
        Walks told = walksTold[walks];
        for (int i = 0; i < told.length; i++) {
            int fork = told.forkAt(i);
            int to = goal(moor, fork, told.wayAt(i));
            if (to == NONE) {
                return i;
            }
            stepTo(fork, to, false);
        }
        return told.length;
    }

    // Promise 20
    public int brings(int cell, int season) {
        if (!hasHeath() || season < 0 || season >= SEASONS) {
            return NONE;
        }
        if (cell == NONE) {
            return allBring(season, moor.wells);
        }
        if (!heath.isCell(cell) || !holds(moor.wells, cell)) {
            return NONE;
        }
        return wellBrings(cell, season, moor.wells);
    }

    // Promise 21
    public int cheapest(int n, int what) {
        if (!hasHeath() || n < 1 || n > 40 || what < 0 || what > 1) {
            return NONE;
        }
        plan.prepare(heath, moor, n);
        plan.search();
        if (!plan.found) {
            return NONE;
        }
        return what == 0 ? plan.bestSet : plan.bestPrice;
    }

    // Promise 22
    public int reach(int fork, int n) {
        if (!heath.isFork(fork) || n < 0 || n > 9) {
            return NONE;
        }
        int free = freeOf(heath.trait(fork, GUILD));
        int reached = bit(moor.placeOf(fork));
        for (int i = 0; i < n; i++) {
            reached |= heath.besideAll(reached) & free;
        }
        return reached;
    }

    // Promise 23
    public int stuck() {
        if (!hasHeath()) {
            return NONE;
        }
        int found = 0;
        for (int fork = 0; fork < heath.forks; fork++) {
            int free = freeOf(heath.trait(fork, GUILD));
            if ((heath.besideOf(moor.placeOf(fork)) & free) == 0) {
                found |= bit(fork);
            }
        }
        return found;
    }

    // Promise 24
    public int trail(int guild, int what) {
        if (!hasHeath() || guild < 0 || guild > 1) {
            return NONE;
        }
        if (what == 0) {
            return moor.trailOf(guild);
        }
        return what == 1 ? freeOf(guild) : NONE;
    }

    // Promise 25
    public int hear(int fork, int cell, boolean water) {
        if (!heath.isFork(fork) || !heath.isCell(cell) || heard.number >= HEARD_ROOM) {
            return NONE;
        }
        heard.add(fork, cell, water);
        return heard.number;
    }

    // Promise 26
    public int fits(int n, int i) {
        if (!canScan(n)) {
            return NONE;
        }
        heard.scan(heath, n, NONE);
        return i == NONE ? heard.fitting : heard.codeAt(i);
    }

    // Promise 27
    public int sure(int n) {
        if (!canScan(n)) {
            return NONE;
        }
        heard.scan(heath, n, NONE);
        return heard.fitting == 0 ? NONE : heard.common;
    }

    // Promise 28
    public int ask(int n) {
        if (!canScan(n)) {
            return NONE;
        }
        heard.scan(heath, n, NONE);
        return heard.fitting == 0 ? NONE : heard.mostTelling(heath.cells);
    }

    // Promise 29
    public int wrong(int n) {
        if (!canScan(n)) {
            return NONE;
        }
        heard.scan(heath, n, NONE);
        if (heard.fitting > 0) {
            return 0;
        }
        int found = 0;
        for (int fork = 0; fork < heath.forks; fork++) {
            heard.scan(heath, n, fork);
            if (heard.fitting > 0) {
                found |= bit(fork);
            }
        }
        return found;
    }

    // Promise 30
    public int chance(int cell) {
        if (!heath.isCell(cell)) {
            return NONE;
        }
        long yes = 1;
        long no = 1;
        for (int fork = 0; fork < heath.forks; fork++) {
            int twitched = moor.latestTwitch(fork, cell);
            if (twitched != NONE) {
                int errs = heath.trait(fork, ERRS);
                yes *= twitched > 0 ? 10 - errs : errs;
                no *= twitched > 0 ? errs : 10 - errs;
            }
        }
        long both = yes + no;
        return both <= 0 ? NONE : (int) (yes * WHOLE_CHANCE / both);
    }

    // Promise 31
    public int wishers(int cell) {
        if (!heath.isCell(cell) || heath.hasWater(cell) || heath.ironIn(cell) != NONE) {
            return NONE;
        }
        int found = 0;
        for (int fork = 0; fork < heath.forks; fork++) {
            if (twitchIn(moor, fork, cell) > 0) {
                found |= bit(fork);
            }
        }
        return found;
    }

    // Promise 32
    public int right(int fork) {
        return heath.isFork(fork) ? truthOf(fork) : HIDDEN;
    }

    // Promise 33
    public int best() {
        if (!hasHeath()) {
            return NONE;
        }
        int found = 0;
        for (int fork = 1; fork < heath.forks; fork++) {
            if (truthOf(fork) > truthOf(found)) {
                found = fork;
            }
        }
        return found;
    }

    // Promise 34
    public int nearest(int fork) {
        if (!heath.isFork(fork)) {
            return NONE;
        }
        int least = NONE;
        for (int cell = 0; cell < heath.cells; cell++) {
            if (heath.hasWater(cell)) {
                int far = heath.stepsBetween(moor.placeOf(fork), cell);
                least = least == NONE || far < least ? far : least;
            }
        }
        return least;
    }

    // Promise 35
    public int meets() {
        return hasHeath() ? heath.meeting : NONE;
    }

    // Promise 36
    public int shallow() {
        int found = NONE;
        int least = DEEPEST_WATER + 1;
        for (int cell = 0; cell < heath.cells; cell++) {
            int depth = heath.waterIn(cell, moor.season);
            if (depth != NONE && depth < least) {
                least = depth;
                found = cell;
            }
        }
        return found;
    }

    // Promise 37
    public int heap() {
        int found = NONE;
        int most = 0;
        for (int cell = 0; cell < heath.cells; cell++) {
            int twitches = moor.twitchesIn(cell);
            if (twitches > most) {
                most = twitches;
                found = cell;
            }
        }
        return found;
    }

    // Promise 38
    public int costs(int cell) {
        return canSink(cell) ? priceNow(cell) : NONE;
    }

    // Promise 39
    public int loses(int cell) {
        if (!canSink(cell)) {
            return NONE;
        }
        return allBring(moor.season, moor.wells) - allBring(moor.season, moor.wells | bit(cell));
    }

    // Promise 40
    public int richest() {
        int found = NONE;
        int most = 0;
        for (int fork = 0; fork < heath.forks; fork++) {
            if (moor.payOf(fork) > most) {
                most = moor.payOf(fork);
                found = fork;
            }
        }
        return found;
    }

    // Promise 41
    public int driest() {
        if (!hasHeath()) {
            return NONE;
        }
        int found = 0;
        for (int season = 1; season < SEASONS; season++) {
            if (allBring(season, moor.wells) < allBring(found, moor.wells)) {
                found = season;
            }
        }
        return found;
    }

    // Promise 42
    public int image() {
        if (!hasHeath()) {
            return NONE;
        }
        kept.copy(moor);
        imaged = true;
        return moor.season;
    }

    // Promise 43
    public int back() {
        if (!imaged) {
            return NONE;
        }
        moor.copy(kept);
        acts.clear();
        return moor.season;
    }

    // Promise 44
    public int count(int what) {
        switch (what) {
            case 0:
                return heath.cells;
            case 1:
                return heath.veins;
            case 2:
                return heath.forks;
            case 3:
                return lawCount;
            case 4:
                return walksCount;
            case 5:
                return tape.length;
            case 6:
                return holding;
            default:
                return countOfMoor(what);
        }
    }

    private int countOfMoor(int what) {
        switch (what) {
            case 7:
                return moor.season;
            case 8:
                return moor.wells;
            case 9:
                return moor.payOfAll();
            case 10:
                return moor.spent;
            case 11:
                return heard.number;
            case 12:
                return moor.bookLength();
            case 13:
                return acts.number;
            default:
                return HIDDEN;
        }
    }

    private int takeHeath() {
        heath = heathReader.exchange(heath);
        tape.length = 0;
        moor.begin(heath);
        acts.clear();
        heard.number = 0;
        imaged = false;
        return heath.cells;
    }

    private int takeLaw() {
        if (lawCount < 0 || lawCount >= laws.length) {
            return NONE;
        }
        laws[lawCount] = lawReader.exchange(laws[lawCount]);
        tape.length = 0;
        lawCount++;
        return lawCount - 1;
    }

    private int takeWalks() {
        if (walksCount < 0 || walksCount >= walksTold.length) {
            return NONE;
        }
        walksTold[walksCount] = walksReader.exchange(walksTold[walksCount]);
        tape.length = 0;
        walksCount++;
        return walksCount - 1;
    }

    private boolean hasHeath() {
        return heath.cells > 0;
    }

    private boolean hasWalks(int walks) {
        return walks >= 0 && walks < walksCount && walks < walksTold.length;
    }

    private boolean canScan(int n) {
        return hasHeath() && n >= 2 && n <= 5;
    }

    private boolean canSink(int cell) {
        return heath.isCell(cell) && !holds(moor.wells, cell);
    }

    private static int bit(int i) {
        return 1 << i;
    }

    private static boolean holds(int bits, int i) {
        return i >= 0 && (bits >> i & 1) == 1;
    }

    private static int within(long number, int least, int most) {
        if (number < least) {
            return least;
        }
        return number > most ? most : (int) number;
    }

    private static int placeIn(String signs, int sign) {
        return sign < 0 ? NONE : signs.indexOf((char) sign);
    }

    private static long turned(long x) {
        return x * 6364136223846793005L + 1442695040888963407L;
    }

    private static int drawn(long x, int m) {
        return m < 1 ? 0 : (int) ((x >>> 33) % m);
    }

    /** The cell a fork would come to, NONE if it can't go. */
    private int goal(Moor on, int fork, int way) {
        if (!heath.isFork(fork)) {
            return NONE;
        }
        int to = heath.beyond(on.placeOf(fork), way);
        if (to == NONE || holds(on.trailOf(1 - heath.trait(fork, GUILD)), to)) {
            return NONE;
        }
        return to;
    }

    private int stepTo(int fork, int to, boolean errs) {
        int guild = heath.trait(fork, GUILD);
        acts.add(STEPPED, fork, moor.placeOf(fork), moor.trailOf(guild));
        moor.move(fork, to, guild);
        int twitched = twitchIn(moor, fork, to);
        if (errs) {
            twitched = twitched > 0 ? 0 : 1;
        }
        moor.write(fork, to, twitched);
        return twitched;
    }

    private int freeOf(int guild) {
        return heath.allCells() & ~moor.trailOf(1 - guild);
    }

    private int twitchIn(Moor on, int fork, int cell) {
        if (holding < 0 || holding >= laws.length) {
            return plainTwitch(on, fork, cell);
        }
        tellLetters(on, fork, cell);
        return within(laws[holding].worth(letters), 0, MOST_TWITCH);
    }

    private int plainTwitch(Moor on, int fork, int cell) {
        int most = 0;
        int depth = heath.waterIn(cell, on.season);
        if (depth != NONE) {
            most = Math.max(most, heath.trait(fork, WATER_HEED) - depth + 1);
        }
        int iron = heath.ironIn(cell);
        if (iron != NONE && iron <= heath.trait(fork, IRON_HEED)) {
            most = Math.max(most, 10);
        }
        if (heath.trait(fork, WISH) == cell) {
            most = Math.max(most, 5);
        }
        return most;
    }

    private void tellLetters(Moor on, int fork, int cell) {
        int depth = heath.waterIn(cell, on.season);
        int iron = heath.ironIn(cell);
        letters[0] = depth == NONE ? NO_DEPTH : depth;
        letters[1] = heath.trait(fork, WATER_HEED);
        letters[2] = iron == NONE ? NO_DEPTH : iron;
        letters[3] = heath.trait(fork, WISH) == cell ? 1 : 0;
        letters[4] = on.season;
        letters[5] = 1 + on.othersIn(cell, fork, heath.forks);
    }

    private boolean isWet(int cell) {
        int depth = heath.waterIn(cell, moor.season);
        return depth != NONE && depth <= DEEPEST_WELL;
    }

    private int wellDepth(int cell) {
        return isWet(cell) ? heath.waterIn(cell, moor.season) : DEEPEST_WELL;
    }

    private int footPrice(int cell) {
        return heath.foot + heath.rockIn(cell);
    }

    private int priceNow(int cell) {
        return wellDepth(cell) * footPrice(cell);
    }

    /** What a well brings, if the wells told by bits are those beside it. */
    private int wellBrings(int cell, int season, int wells) {
        int depth = heath.waterIn(cell, season);
        if (depth == NONE || depth > moor.sunkTo(cell)) {
            return 0;
        }
        return Math.max(0, 10 - depth / 10 - Integer.bitCount(heath.besideOf(cell) & wells));
    }

    private int allBring(int season, int wells) {
        int sum = 0;
        for (int cell = 0; cell < heath.cells; cell++) {
            if (holds(moor.wells, cell)) {
                sum += wellBrings(cell, season, wells);
            }
        }
        return sum;
    }

    private int truthOf(int fork) {
        int truth = 0;
        for (int i = 0; i < moor.bookLength(); i++) {
            if (moor.forkOn(i) == fork && moor.twitchOn(i) > 0) {
                int depth = heath.waterIn(moor.cellOn(i), moor.season);
                truth += depth != NONE && depth <= heath.trait(fork, WATER_HEED) ? 1 : -1;
            }
        }
        return truth;
    }

    /** The bytes that were fed, and a place among them from which a reader goes on. */
    private static final class Tape {
        private final int[] bytes = new int[TAPE_ROOM];
        private int length = 0;
        private int at = 0;

        static int bytesIn(int word) {
            int found = 0;
            for (int shift = 24; shift >= 0; shift -= 8) {
                found += (word >>> shift & 255) == 0 ? 0 : 1;
            }
            return found;
        }

        void append(int word) {
            for (int shift = 24; shift >= 0; shift -= 8) {
                int sign = word >>> shift & 255;
                if (sign != 0 && length >= 0 && length < bytes.length) {
                    bytes[length] = sign;
                    length++;
                }
            }
        }

        /** The next sign that is no blank; the place is then at it. */
        int peek() {
            for (; at >= 0 && at < length && at < bytes.length; at++) {
                if (bytes[at] != BLANK) {
                    return bytes[at];
                }
            }
            return TEXT_END;
        }

        boolean take(int sign) {
            if (peek() != sign) {
                return false;
            }
            at++;
            return true;
        }

        /** A number of so many digits at most, from the place on; NONE, with the place at the fault, if none. */
        int number(int mostDigits) {
            int value = 0;
            int digits = 0;
            for (; at >= 0 && at < length && at < bytes.length; at++) {
                int digit = bytes[at] - '0';
                if (digit < 0 || digit > 9) {
                    break;
                }
                if (digits == mostDigits) {
                    return NONE;
                }
                value = value * 10 + digit;
                digits++;
            }
            return digits == 0 ? NONE : value;
        }
    }

    /** What a heath's text tells, and nothing that changes later. */
    private static final class Heath {
        private final int[] depths = new int[CELL_ROOM];
        private final int[] irons = new int[CELL_ROOM];
        private final int[] rocks = new int[CELL_ROOM];
        private final int[] beside = new int[CELL_ROOM];
        private final int[] traits = new int[FORK_ROOM * ITEM_ROOM];
        private int width = 0;
        private int height = 0;
        private int deeper = 0;
        private int foot = 0;
        private int cells = 0;
        private int forks = 0;
        private int veins = 0;
        private int veined = 0;
        private int meeting = 0;

        void lay(int wide, int high, int seasonDeeper, int footCost) {
            width = wide;
            height = high;
            deeper = seasonDeeper;
            foot = footCost;
            cells = Math.min(width * height, CELL_ROOM);
            forks = 0;
            veins = 0;
            veined = 0;
            meeting = 0;
            for (int cell = 0; cell < CELL_ROOM; cell++) {
                depths[cell] = NONE;
                irons[cell] = NONE;
                rocks[cell] = 0;
                beside[cell] = cell < cells ? besideBits(cell) : 0;
            }
        }

        private int besideBits(int cell) {
            int bits = 0;
            for (int way = 0; way < WAYS; way++) {
                int to = beyond(cell, way);
                bits |= to == NONE ? 0 : bit(to);
            }
            return bits;
        }

        boolean isCell(int cell) {
            return cell >= 0 && cell < cells && cell < CELL_ROOM;
        }

        boolean isFork(int fork) {
            return fork >= 0 && fork < forks && fork < FORK_ROOM;
        }

        int allCells() {
            return bit(cells) - 1;
        }

        int columnOf(int cell) {
            return width < 1 ? 0 : cell % width;
        }

        int rowOf(int cell) {
            return width < 1 ? 0 : cell / width;
        }

        /** The cell beside another on a way, NONE beyond the heath. */
        int beyond(int cell, int way) {
            if (!isCell(cell)) {
                return NONE;
            }
            switch (way) {
                case 0:
                    return columnOf(cell) + 1 < width ? cell + 1 : NONE;
                case 1:
                    return rowOf(cell) + 1 < height ? cell + width : NONE;
                case 2:
                    return columnOf(cell) > 0 ? cell - 1 : NONE;
                case 3:
                    return rowOf(cell) > 0 ? cell - width : NONE;
                default:
                    return NONE;
            }
        }

        int besideOf(int cell) {
            return isCell(cell) ? beside[cell] : 0;
        }

        int besideAll(int bits) {
            int found = 0;
            for (int cell = 0; cell < cells; cell++) {
                if (holds(bits, cell)) {
                    found |= besideOf(cell);
                }
            }
            return found;
        }

        int stepsBetween(int from, int to) {
            return Math.abs(columnOf(from) - columnOf(to)) + Math.abs(rowOf(from) - rowOf(to));
        }

        void moisten(int cell, int depth) {
            if (isCell(cell) && (depths[cell] == NONE || depth < depths[cell])) {
                depths[cell] = depth;
            }
        }

        void addVein(int bits) {
            meeting |= veined & bits;
            veined |= bits;
            veins++;
        }

        boolean hasWater(int cell) {
            return isCell(cell) && depths[cell] != NONE;
        }

        int waterIn(int cell, int season) {
            if (!hasWater(cell)) {
                return NONE;
            }
            int times = season == DRY_SEASON ? 2 : season & 1;
            return Math.min(DEEPEST_WATER, depths[cell] + times * deeper);
        }

        int ironIn(int cell) {
            return isCell(cell) ? irons[cell] : NONE;
        }

        boolean addIron(int cell, int depth) {
            if (!isCell(cell) || irons[cell] != NONE) {
                return false;
            }
            irons[cell] = depth;
            return true;
        }

        int rockIn(int cell) {
            return isCell(cell) ? rocks[cell] : 0;
        }

        boolean addRock(int cell, int more) {
            if (!isCell(cell) || rocks[cell] != 0) {
                return false;
            }
            rocks[cell] = more;
            return true;
        }

        int trait(int fork, int what) {
            if (!isFork(fork) || what < 0 || what >= ITEM_ROOM) {
                return 0;
            }
            return traits[fork * ITEM_ROOM + what];
        }

        void setTrait(int fork, int what, int value) {
            if (isFork(fork) && what >= 0 && what < ITEM_ROOM) {
                traits[fork * ITEM_ROOM + what] = value;
            }
        }
    }

    /** Reads a heath's text: first its clauses as they stand, then what they say together. */
    private static final class HeathReader {
        private final int[] found = new int[KIND_ROOM];
        private final int[] items = new int[KIND_ROOM * CLAUSE_ROOM * ITEM_ROOM];
        private final int[] course = new int[VEIN_ROOM * WAYS_ROOM];
        private final int[] courseLength = new int[VEIN_ROOM];
        private Heath made = new Heath();

        /** Gives the heath that was read last, and keeps the old one to read into. */
        Heath exchange(Heath old) {
            Heath given = made;
            made = old;
            return given;
        }

        int faultOf(Tape tape) {
            tape.at = 0;
            for (int kind = 0; kind < KIND_ROOM; kind++) {
                found[kind] = 0;
            }
            fillWithout(RULES, 0);
            for (int i = 0; i <= TAPE_ROOM; i++) {
                if (!readClause(tape)) {
                    return tape.at;
                }
                if (tape.peek() == TEXT_END) {
                    break;
                }
                if (!tape.take(';')) {
                    return tape.at;
                }
            }
            return found[FORK] > 0 && settle() ? NONE : tape.length;
        }

        private boolean readClause(Tape tape) {
            int kind = placeIn(KIND_LETTERS, tape.peek());
            if (kind < 0 || kind >= KIND_ROOM || found[kind] >= KIND_MOST[kind]) {
                return false;
            }
            tape.at++;
            int clause = found[kind];
            found[kind]++;
            fillWithout(kind, clause);
            if (!readItems(tape, kind, clause)) {
                return false;
            }
            return kind != VEIN || readCourse(tape, clause);
        }

        private static String lettersOf(int kind) {
            switch (kind) {
                case RULES:
                    return "whay";
                case VEIN:
                    return "cdf";
                case IRON:
                    return "cd";
                case ROCK:
                    return "cp";
                default:
                    return "cwixeg";
            }
        }

        private boolean readItems(Tape tape, int kind, int clause) {
            String names = lettersOf(kind);
            int seen = 0;
            for (int i = 0; i <= ITEM_ROOM; i++) {
                int item = placeIn(names, tape.peek());
                if (item < 0) {
                    return true;
                }
                if (holds(seen, item)) {
                    return false;
                }
                seen |= bit(item);
                tape.at++;
                if (!readNumber(tape, kind, clause, item)) {
                    return false;
                }
            }
            return true;
        }

        private boolean readNumber(Tape tape, int kind, int clause, int item) {
            tape.peek();
            int value = tape.number(2);
            if (value == NONE) {
                return false;
            }
            int bounds = kind * ITEM_ROOM + item;
            if (bounds < 0 || bounds >= ITEM_MOST.length || bounds >= ITEM_LEAST.length
                    || value < ITEM_LEAST[bounds] || value > ITEM_MOST[bounds]) {
                tape.at--;
                return false;
            }
            setItem(kind, clause, item, value);
            return true;
        }

        private boolean readCourse(Tape tape, int vein) {
            if (vein < 0 || vein >= VEIN_ROOM) {
                return false;
            }
            courseLength[vein] = 0;
            if (!tape.take(':')) {
                return true;
            }
            for (int i = 0; i < WAYS_ROOM; i++) {
                int way = placeIn(WAY_LETTERS, tape.peek());
                if (way < 0) {
                    return i > 0;
                }
                course[vein * WAYS_ROOM + i] = way;
                courseLength[vein] = i + 1;
                tape.at++;
            }
            return true;
        }

        private void fillWithout(int kind, int clause) {
            for (int item = 0; item < ITEM_ROOM; item++) {
                int without = kind * ITEM_ROOM + item;
                if (without >= 0 && without < ITEM_WITHOUT.length) {
                    setItem(kind, clause, item, ITEM_WITHOUT[without]);
                }
            }
        }

        private void setItem(int kind, int clause, int item, int value) {
            int at = (kind * CLAUSE_ROOM + clause) * ITEM_ROOM + item;
            if (at >= 0 && at < items.length) {
                items[at] = value;
            }
        }

        private int itemOf(int kind, int clause, int item) {
            int at = (kind * CLAUSE_ROOM + clause) * ITEM_ROOM + item;
            return at >= 0 && at < items.length ? items[at] : 0;
        }

        private boolean settle() {
            made.lay(itemOf(RULES, 0, 0), itemOf(RULES, 0, 1), itemOf(RULES, 0, 2), itemOf(RULES, 0, 3));
            for (int i = 0; i < found[VEIN] && i < VEIN_ROOM; i++) {
                if (!settleVein(i)) {
                    return false;
                }
            }
            for (int i = 0; i < found[IRON]; i++) {
                if (!made.addIron(itemOf(IRON, i, 0), itemOf(IRON, i, 1))) {
                    return false;
                }
            }
            for (int i = 0; i < found[ROCK]; i++) {
                if (!made.addRock(itemOf(ROCK, i, 0), itemOf(ROCK, i, 1))) {
                    return false;
                }
            }
            made.forks = found[FORK];
            for (int i = 0; i < found[FORK]; i++) {
                if (!settleFork(i)) {
                    return false;
                }
            }
            return true;
        }

        private boolean settleVein(int vein) {
            int cell = itemOf(VEIN, vein, 0);
            int depth = itemOf(VEIN, vein, 1);
            int falls = itemOf(VEIN, vein, 2);
            if (!made.isCell(cell)) {
                return false;
            }
            made.moisten(cell, depth);
            int bits = bit(cell);
            for (int i = 0; i < courseLength[vein] && i < WAYS_ROOM; i++) {
                cell = made.beyond(cell, course[vein * WAYS_ROOM + i]);
                if (cell == NONE) {
                    return false;
                }
                depth += falls;
                made.moisten(cell, depth);
                bits |= bit(cell);
            }
            made.addVein(bits);
            return true;
        }

        private boolean settleFork(int fork) {
            for (int item = 0; item < ITEM_ROOM; item++) {
                made.setTrait(fork, item, itemOf(FORK, fork, item));
            }
            if (!made.isCell(itemOf(FORK, fork, WISH))) {
                made.setTrait(fork, WISH, NONE);
            }
            return made.isCell(itemOf(FORK, fork, PLACE));
        }
    }

    /** A law as code for a stack: each clause's condition with WHEN behind it, its sum, CLAUSE_END. */
    private static final class Law {
        private final int[] code = new int[TAPE_ROOM];
        private final int[] stack = new int[STACK_ROOM];
        private int length = 0;
        private int top = 0;

        void emit(int what) {
            if (length >= 0 && length < code.length) {
                code[length] = what;
                length++;
            }
        }

        int worth(int[] letters) {
            boolean skips = false;
            top = 0;
            for (int i = 0; i < length && i < code.length; i++) {
                int what = code[i];
                if (what == CLAUSE_END) {
                    if (!skips) {
                        return pop();
                    }
                    skips = false;
                } else if (what == WHEN) {
                    skips = pop() == 0;
                } else if (!skips) {
                    obey(what, letters);
                }
            }
            return 0;
        }

        private void obey(int what, int[] letters) {
            if (what >= 0) {
                push(what);
            } else if (what > PLUS) {
                int letter = -1 - what;
                push(letter < letters.length ? letters[letter] : 0);
            } else if (what == NOT) {
                push(pop() == 0 ? 1 : 0);
            } else {
                int second = pop();
                int first = pop();
                push(joined(what, first, second));
            }
        }

        private static int joined(int what, int first, int second) {
            switch (what) {
                case PLUS:
                    return within((long) first + second, -FAR_NUMBER, FAR_NUMBER);
                case LESS:
                    return within((long) first - second, -FAR_NUMBER, FAR_NUMBER);
                case TIMES:
                    return within((long) first * second, -FAR_NUMBER, FAR_NUMBER);
                case OVER:
                    return second == 0 ? 0 : first / second;
                case SAME:
                    return first == second ? 1 : 0;
                case BELOW:
                    return first < second ? 1 : 0;
                case ABOVE:
                    return first > second ? 1 : 0;
                case BOTH:
                    return first & second;
                case EITHER:
                    return first | second;
                default:
                    return 0;
            }
        }

        private void push(int number) {
            if (top >= 0 && top < stack.length) {
                stack[top] = number;
                top++;
            }
        }

        private int pop() {
            if (top <= 0 || top > stack.length) {
                return 0;
            }
            top--;
            return stack[top];
        }
    }

    /** Reads a law's text; each method is true, or the tape stands at the fault. */
    private static final class LawReader {
        private Law made = new Law();

        /** Gives the law that was read last, and keeps the old one to read into. */
        Law exchange(Law old) {
            Law given = made;
            made = old;
            return given;
        }

        int faultOf(Tape tape) {
            tape.at = 0;
            made.length = 0;
            for (int i = 0; i <= TAPE_ROOM; i++) {
                if (!readClause(tape)) {
                    return tape.at;
                }
                made.emit(CLAUSE_END);
                if (tape.peek() == TEXT_END) {
                    return NONE;
                }
                if (!tape.take(';')) {
                    return tape.at;
                }
            }
            return tape.at;
        }

        private boolean readClause(Tape tape) {
            if (!tape.take('y') || !tape.take(':')) {
                return false;
            }
            int sign = tape.peek();
            boolean begun = sign != '!' && sign != '(';
            if (begun) {
                if (!readSum(tape, 0)) {
                    return false;
                }
                if (comparing(tape.peek()) == NONE) {
                    return true;
                }
            }
            if (!readCondition(tape, 0, begun) || !tape.take('?')) {
                return false;
            }
            made.emit(WHEN);
            return readSum(tape, 0);
        }

        /** Begun: the sum that its first unit begins with is read already. */
        private boolean readCondition(Tape tape, int nested, boolean begun) {
            if (!readUnit(tape, nested, begun)) {
                return false;
            }
            // | waits until the units that & joins behind it are read.
            boolean waits = false;
            for (int i = 0; i <= TAPE_ROOM; i++) {
                int sign = tape.peek();
                if (waits && sign != '&') {
                    made.emit(EITHER);
                }
                if (sign != '&' && sign != '|') {
                    return true;
                }
                tape.at++;
                if (!readUnit(tape, nested, false)) {
                    return false;
                }
                if (sign == '&') {
                    made.emit(BOTH);
                } else {
                    waits = true;
                }
            }
            return false;
        }

        private boolean readUnit(Tape tape, int nested, boolean begun) {
            int sign = tape.peek();
            if (!begun && (sign == '!' || sign == '(')) {
                return readNested(tape, nested, sign);
            }
            if (!begun && !readSum(tape, nested)) {
                return false;
            }
            int how = comparing(tape.peek());
            if (how == NONE) {
                return false;
            }
            tape.at++;
            if (!readSum(tape, nested)) {
                return false;
            }
            made.emit(how);
            return true;
        }

        private boolean readNested(Tape tape, int nested, int sign) {
            if (nested >= MOST_NESTED) {
                return false;
            }
            tape.at++;
            if (sign == '(') {
                return readCondition(tape, nested + 1, false) && tape.take(')');
            }
            if (!readUnit(tape, nested + 1, false)) {
                return false;
            }
            made.emit(NOT);
            return true;
        }

        private static int comparing(int sign) {
            switch (sign) {
                case '=':
                    return SAME;
                case '<':
                    return BELOW;
                case '>':
                    return ABOVE;
                default:
                    return NONE;
            }
        }

        private boolean readSum(Tape tape, int nested) {
            if (!readAtom(tape, nested)) {
                return false;
            }
            // + or - waits until the atoms that * and / join behind it are read.
            int waits = NONE;
            for (int i = 0; i <= TAPE_ROOM; i++) {
                int how = reckoning(tape.peek());
                boolean joins = how == TIMES || how == OVER;
                if (waits != NONE && !joins) {
                    made.emit(waits);
                }
                if (how == NONE) {
                    return true;
                }
                tape.at++;
                if (!readAtom(tape, nested)) {
                    return false;
                }
                if (joins) {
                    made.emit(how);
                } else {
                    waits = how;
                }
            }
            return false;
        }

        private static int reckoning(int sign) {
            switch (sign) {
                case '+':
                    return PLUS;
                case '-':
                    return LESS;
                case '*':
                    return TIMES;
                case '/':
                    return OVER;
                default:
                    return NONE;
            }
        }

        private boolean readAtom(Tape tape, int nested) {
            int sign = tape.peek();
            if (sign == '[') {
                if (nested >= MOST_NESTED) {
                    return false;
                }
                tape.at++;
                if (!readSum(tape, nested + 1) || tape.peek() != ']') {
                    return false;
                }
                tape.at++;
                return true;
            }
            int letter = placeIn(LAW_LETTERS, sign);
            if (letter >= 0) {
                tape.at++;
                made.emit(-1 - letter);
                return true;
            }
            int value = tape.number(4);
            if (value == NONE) {
                return false;
            }
            made.emit(value);
            return true;
        }
    }

    /** The steps of walks in one row, each fork times WAYS and way. */
    private static final class Walks {
        private final int[] steps = new int[STRETCH_ROOM * WAYS_ROOM];
        private int length = 0;

        void add(int fork, int way) {
            if (length >= 0 && length < steps.length) {
                steps[length] = fork * WAYS + way;
                length++;
            }
        }

        int forkAt(int i) {
            return i >= 0 && i < length && i < steps.length ? steps[i] / WAYS : NONE;
        }

        int wayAt(int i) {
            return i >= 0 && i < length && i < steps.length ? steps[i] % WAYS : NONE;
        }
    }

    private static final class WalksReader {
        private Walks made = new Walks();

        /** Gives the walks that were read last, and keeps the old ones to read into. */
        Walks exchange(Walks old) {
            Walks given = made;
            made = old;
            return given;
        }

        int faultOf(Tape tape) {
            tape.at = 0;
            made.length = 0;
            return readStretches(tape) ? NONE : tape.at;
        }

        private boolean readStretches(Tape tape) {
            for (int i = 0; i < STRETCH_ROOM; i++) {
                if (i > 0 && !tape.take(';')) {
                    return false;
                }
                if (!readStretch(tape)) {
                    return false;
                }
                if (tape.peek() == TEXT_END) {
                    return true;
                }
            }
            return false;
        }

        private boolean readStretch(Tape tape) {
            int sign = tape.peek();
            if (sign < '0' || sign > '9') {
                return false;
            }
            tape.at++;
            for (int i = 0; i < WAYS_ROOM; i++) {
                int way = placeIn(WAY_LETTERS, tape.peek());
                if (way < 0) {
                    return i > 0;
                }
                made.add(sign - '0', way);
                tape.at++;
            }
            return true;
        }
    }

    /** What acts change: where forks are and were, the book, wells, pay, the season. */
    private static final class Moor {
        // More than the book shows: each act undone may bring an older page back into it.
        private static final int PAGE_ROOM = BOOK_ROOM + ACT_ROOM;

        private final int[] places = new int[FORK_ROOM];
        private final int[] pays = new int[FORK_ROOM];
        private final int[] trails = new int[2];
        private final int[] pages = new int[PAGE_ROOM];
        private final int[] depths = new int[CELL_ROOM];
        private int written = 0;
        private int wells = 0;
        private int spent = 0;
        private int season = 0;

        void begin(Heath heath) {
            written = 0;
            wells = 0;
            spent = 0;
            season = 0;
            for (int cell = 0; cell < CELL_ROOM; cell++) {
                depths[cell] = 0;
            }
            trails[0] = 0;
            trails[1] = 0;
            for (int fork = 0; fork < FORK_ROOM; fork++) {
                pays[fork] = 0;
                places[fork] = NONE;
                if (heath.isFork(fork)) {
                    move(fork, heath.trait(fork, PLACE), heath.trait(fork, GUILD));
                }
            }
        }

        void copy(Moor from) {
            System.arraycopy(from.places, 0, places, 0, FORK_ROOM);
            System.arraycopy(from.pays, 0, pays, 0, FORK_ROOM);
            System.arraycopy(from.trails, 0, trails, 0, 2);
            System.arraycopy(from.pages, 0, pages, 0, PAGE_ROOM);
            System.arraycopy(from.depths, 0, depths, 0, CELL_ROOM);
            written = from.written;
            wells = from.wells;
            spent = from.spent;
            season = from.season;
        }

        int placeOf(int fork) {
            return fork >= 0 && fork < FORK_ROOM ? places[fork] : NONE;
        }

        int othersIn(int cell, int fork, int forks) {
            int found = 0;
            for (int other = 0; other < forks; other++) {
                found += other != fork && placeOf(other) == cell ? 1 : 0;
            }
            return found;
        }

        int trailOf(int guild) {
            return guild == 0 || guild == 1 ? trails[guild] : 0;
        }

        void move(int fork, int to, int guild) {
            if (fork >= 0 && fork < FORK_ROOM && (guild == 0 || guild == 1)) {
                places[fork] = to;
                trails[guild] |= bit(to);
            }
        }

        void unstep(int fork, int from, int guild, int trail) {
            if (fork >= 0 && fork < FORK_ROOM && (guild == 0 || guild == 1)) {
                places[fork] = from;
                trails[guild] = trail;
                written = Math.max(0, written - 1);
            }
        }

        void write(int fork, int cell, int twitched) {
            int page = written % PAGE_ROOM;
            if (page >= 0) {
                pages[page] = (fork * 100 + cell) * 100 + twitched;
                written++;
            }
        }

        int bookLength() {
            return Math.min(written, BOOK_ROOM);
        }

        private int pageAt(int i) {
            int page = (written - 1 - i) % PAGE_ROOM;
            return page >= 0 ? pages[page] : 0;
        }

        int forkOn(int i) {
            return pageAt(i) / 10000;
        }

        int cellOn(int i) {
            return pageAt(i) / 100 % 100;
        }

        int twitchOn(int i) {
            return pageAt(i) % 100;
        }

        /** The forks that twitched above 0 in a cell, as bits. */
        int twitchersIn(int cell) {
            int found = 0;
            for (int i = 0; i < bookLength(); i++) {
                if (cellOn(i) == cell && twitchOn(i) > 0) {
                    found |= bit(forkOn(i));
                }
            }
            return found;
        }

        int twitchesIn(int cell) {
            int found = 0;
            for (int i = 0; i < bookLength(); i++) {
                found += cellOn(i) == cell && twitchOn(i) > 0 ? 1 : 0;
            }
            return found;
        }

        int latestTwitch(int fork, int cell) {
            for (int i = 0; i < bookLength(); i++) {
                if (forkOn(i) == fork && cellOn(i) == cell) {
                    return twitchOn(i);
                }
            }
            return NONE;
        }

        int sunkTo(int cell) {
            return cell >= 0 && cell < CELL_ROOM ? depths[cell] : 0;
        }

        void addWell(int cell, int depth, int price) {
            if (cell >= 0 && cell < CELL_ROOM) {
                depths[cell] = depth;
                wells |= bit(cell);
                spent += price;
            }
        }

        void dropWell(int cell, int price) {
            if (cell >= 0 && cell < CELL_ROOM) {
                depths[cell] = 0;
                wells &= ~bit(cell);
                spent -= price;
            }
        }

        int payOf(int fork) {
            return fork >= 0 && fork < FORK_ROOM ? pays[fork] : 0;
        }

        int payOfAll() {
            int sum = 0;
            for (int fork = 0; fork < FORK_ROOM; fork++) {
                sum += pays[fork];
            }
            return sum;
        }

        void addPay(int forks, int share) {
            for (int fork = 0; fork < FORK_ROOM; fork++) {
                pays[fork] += holds(forks, fork) ? share : 0;
            }
        }
    }

    /** The latest acts, each with what it takes to undo it, in a row that goes round. */
    private static final class Acts {
        private static final int KIND = 0;
        private static final int ONE = 1;
        private static final int TWO = 2;
        private static final int THREE = 3;
        private static final int PARTS = 4;

        private final int[] row = new int[ACT_ROOM * PARTS];
        private int number = 0;
        private int next = 0;

        void clear() {
            number = 0;
        }

        void add(int kind, int one, int two, int three) {
            int at = next * PARTS;
            if (at >= 0 && at + THREE < row.length) {
                row[at + KIND] = kind;
                row[at + ONE] = one;
                row[at + TWO] = two;
                row[at + THREE] = three;
                next = (next + 1) % ACT_ROOM;
                number = Math.min(number + 1, ACT_ROOM);
            }
        }

        int latest(int part) {
            int at = (next + ACT_ROOM - 1) % ACT_ROOM * PARTS + part;
            return at >= 0 && at < row.length ? row[at] : 0;
        }

        void drop() {
            next = (next + ACT_ROOM - 1) % ACT_ROOM;
            number = Math.max(0, number - 1);
        }
    }

    /** What was heard, and what the latest scan found of the veins that fit it. */
    private static final class Heard {
        private final int[] forks = new int[HEARD_ROOM];
        private final int[] cells = new int[HEARD_ROOM];
        private final boolean[] waters = new boolean[HEARD_ROOM];
        private final int[] codes = new int[FIT_ROOM];
        private final int[] tallies = new int[CELL_ROOM];
        private int number = 0;
        private int yes = 0;
        private int no = 0;
        private int fitting = 0;
        private int common = 0;

        void add(int fork, int cell, boolean water) {
            if (number >= 0 && number < HEARD_ROOM) {
                forks[number] = fork;
                cells[number] = cell;
                waters[number] = water;
                number++;
            }
        }

        int codeAt(int i) {
            return i >= 0 && i < fitting && i < FIT_ROOM ? codes[i] : NONE;
        }

        /** Looks at all veins of n cells, as if the fork left out (NONE: nobody) had said nothing. */
        void scan(Heath heath, int n, int leftOut) {
            gather(leftOut);
            fitting = 0;
            common = heath.allCells();
            for (int cell = 0; cell < CELL_ROOM; cell++) {
                tallies[cell] = 0;
            }
            for (int cell = 0; cell < heath.cells; cell++) {
                for (int turns = 0; turns < bit(n - 1); turns++) {
                    int vein = veinBits(heath, cell, n, turns);
                    if (vein != 0 && (vein & yes) == yes && (vein & no) == 0) {
                        addFit(cell * 100 + turns, vein);
                    }
                }
            }
        }

        private void gather(int leftOut) {
            yes = 0;
            no = 0;
            for (int i = 0; i < number && i < HEARD_ROOM; i++) {
                if (forks[i] != leftOut && waters[i]) {
                    yes |= bit(cells[i]);
                } else if (forks[i] != leftOut) {
                    no |= bit(cells[i]);
                }
            }
        }

        /** The cells of a vein, as bits; 0 if it leaves the heath. */
        private static int veinBits(Heath heath, int from, int n, int turns) {
            int bits = bit(from);
            int cell = from;
            for (int i = n - 2; i >= 0; i--) {
                cell = heath.beyond(cell, turns >> i & 1);
                if (cell == NONE) {
                    return 0;
                }
                bits |= bit(cell);
            }
            return bits;
        }

        private void addFit(int code, int vein) {
            if (fitting < 0 || fitting >= FIT_ROOM) {
                return;
            }
            codes[fitting] = code;
            fitting++;
            common &= vein;
            for (int cell = 0; cell < CELL_ROOM; cell++) {
                tallies[cell] += vein >> cell & 1;
            }
        }

        int mostTelling(int cellCount) {
            int found = 0;
            int least = FIT_ROOM + 1;
            for (int cell = 0; cell < cellCount && cell < CELL_ROOM; cell++) {
                int gap = Math.abs(fitting - 2 * tallies[cell]);
                if (gap < least) {
                    least = gap;
                    found = cell;
                }
            }
            return found;
        }
    }

    /** The search for the cheapest wells that bring enough in the driest season. */
    private static final class WellPlan {
        private final int[] yields = new int[CELL_ROOM];
        private final int[] prices = new int[CELL_ROOM];
        private final int[] beside = new int[CELL_ROOM];
        private int cells = 0;
        private int wells = 0;
        private int open = 0;
        private int wanted = 0;
        private boolean found = false;
        private int bestSet = 0;
        private int bestPrice = 0;
        private int bestSize = 0;

        void prepare(Heath heath, Moor moor, int n) {
            cells = Math.min(heath.cells, CELL_ROOM);
            wells = moor.wells;
            wanted = n;
            open = 0;
            found = false;
            for (int cell = 0; cell < cells; cell++) {
                int depth = heath.waterIn(cell, DRY_SEASON);
                boolean sunk = holds(wells, cell);
                int bottom = sunk ? moor.sunkTo(cell) : DEEPEST_WELL;
                boolean wet = depth != NONE && depth <= bottom;
                yields[cell] = wet ? 10 - depth / 10 : 0;
                prices[cell] = wet ? depth * (heath.foot + heath.rockIn(cell)) : 0;
                beside[cell] = heath.besideOf(cell);
                open |= wet && !sunk ? bit(cell) : 0;
            }
        }

        void search() {
            consider(0, 0, 0);
            for (int a = 0; a < cells && a < CELL_ROOM; a++) {
                if (holds(open, a)) {
                    consider(bit(a), prices[a], 1);
                    searchBeyond(a);
                }
            }
        }

        private void searchBeyond(int a) {
            for (int b = a + 1; b < cells && b < CELL_ROOM; b++) {
                if (!holds(open, b)) {
                    continue;
                }
                int pair = bit(a) | bit(b);
                int price = prices[a] + prices[b];
                consider(pair, price, 2);
                for (int c = b + 1; c < cells && c < CELL_ROOM; c++) {
                    if (holds(open, c)) {
                        consider(pair | bit(c), price + prices[c], 3);
                    }
                }
            }
        }

        private void consider(int set, int price, int size) {
            if (isBetter(set, price, size) && yieldOf(wells | set) >= wanted) {
                found = true;
                bestSet = set;
                bestPrice = price;
                bestSize = size;
            }
        }

        private boolean isBetter(int set, int price, int size) {
            if (!found || price != bestPrice) {
                return !found || price < bestPrice;
            }
            return size != bestSize ? size < bestSize : set < bestSet;
        }

        private int yieldOf(int all) {
            int sum = 0;
            for (int cell = 0; cell < cells && cell < CELL_ROOM; cell++) {
                if (holds(all, cell)) {
                    sum += Math.max(0, yields[cell] - Integer.bitCount(beside[cell] & all));
                }
            }
            return sum;
        }
    }
}
