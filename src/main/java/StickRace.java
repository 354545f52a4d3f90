import java.util.Arrays;
import java.util.NoSuchElementException;

/** Races of sticks down brooks, as the numbered promises of ../shared/DOC.md tell them. */
public final class StickRace {
    public static final int NONE = -1;
    public static final int HIDDEN = -1000;

    private static final int MAX_TAPE = 160;
    private static final int MAX_BROOKS = 6;
    private static final int MAX_STICKS = 10;
    private static final int MAX_SIGHTS = 10;
    private static final int MAX_RUNNERS = 6;
    private static final int MIN_LANES = 2;
    private static final int MAX_LANES = 6;
    private static final int MIN_CELLS = 4;
    private static final int MAX_CELLS = 16;
    private static final int MAX_LENGTH = 5;
    private static final int MAX_WIND = 3;
    private static final int MAX_HIGH = 3;
    private static final int MAX_HOLD = 10;
    private static final int MAX_TICKS = 60;
    private static final int MAX_SEEDS = 40;
    private static final int MAX_ROUNDS = 20;
    private static final int MAX_RULE = 30;
    private static final int MAX_TRIALS = 12;
    private static final int MAX_TURNS = 6;
    private static final int NOT_OUT = 99;
    private static final int NO_SUCH_SORT = -2;
    private static final int ALL_PARTS = 1000000;

    private final Tape tape = new Tape();
    private final Brook[] brookList = new Brook[MAX_BROOKS];
    private int brookCount;
    private final Stick[] stickList = new Stick[MAX_STICKS];
    private int stickCount;
    private final Sights sights = new Sights();
    private final Weather sky = new Weather();
    private final Weather flood = new Weather();
    private final Race race = new Race();
    private final Log log = new Log();
    private final Race keptRace = new Race();
    private final Log keptLog = new Log();
    // What the counting calls need is made once here: no call makes objects of its own.
    private final Race scratch = new Race();
    private final Tally tally = new Tally();
    private final Row times = new Row();
    private final Row rungs = new Row();
    private final TrialBook book = new TrialBook();
    private final Brook mould = new Brook();
    private final Stick draft = new Stick();
    private final int[] parts = new int[MAX_ROUNDS + 1];

    public StickRace() {
        for (int i = 0; i < brookList.length; i++) {
            brookList[i] = new Brook();
        }
        for (int i = 0; i < stickList.length; i++) {
            stickList[i] = new Stick();
        }
    }

    // ---- the TAPE and what is told by it ----

    public int feed(int a, int b, int c, int d, int e) {
        int more = Tape.bytesIn(a) + Tape.bytesIn(b) + Tape.bytesIn(c) + Tape.bytesIn(d) + Tape.bytesIn(e);
        if (tape.length + more > MAX_TAPE) {
            return NONE;
        }
        tape.append(a);
        tape.append(b);
        tape.append(c);
        tape.append(d);
        tape.append(e);
        return tape.length;
    }

    public boolean end(int n) {
        if (n < 0 || n > tape.length) {
            return false;
        }
        tape.length = n;
        return true;
    }

    public int fault(int sort) {
        if (sort == 0) {
            return tape.readBrook(mould);
        }
        return sort == 1 ? tape.readStick(draft) : NO_SUCH_SORT;
    }

    public int text(int sort) {
        if (fault(sort) != NONE) {
            return NONE;
        }
        int number = sort == 0 ? keepBrook() : keepStick();
        if (number != NONE) {
            tape.length = 0;
        }
        return number;
    }

    private int keepBrook() {
        if (brookCount >= brookList.length) {
            return NONE;
        }
        brookList[brookCount].copyFrom(mould);
        return brookCount++;
    }

    private int keepStick() {
        if (stickCount >= stickList.length) {
            return NONE;
        }
        stickList[stickCount].shape(draft.length, draft.heavy, draft.feather);
        return stickCount++;
    }

    public int brook(int brook, int what) throws NoSuchElementException {
        if (noBrook(brook) || what < 0 || what > 3) {
            throw new NoSuchElementException();
        }
        Brook b = brookList[brook];
        if (what == 0) {
            return b.lanes;
        }
        if (what == 1) {
            return b.cells;
        }
        return what == 2 ? b.stonesInAll() : b.eddiesInAll();
    }

    public int pace(int brook, int x, int y) {
        if (noBrook(brook) || !brookList[brook].has(x, y)) {
            return NONE;
        }
        return brookList[brook].paceAt(x, y, sky.high);
    }

    public int stick(int stick, int what) {
        if (noStick(stick) || what < 0 || what > 2) {
            return NONE;
        }
        Stick s = stickList[stick];
        if (what == 0) {
            return s.length;
        }
        return what == 1 ? s.heavy : s.feather;
    }

    public boolean weather(int what, int v) {
        if (what == 0 && v >= -MAX_WIND && v <= MAX_WIND) {
            sky.wind = v;
            return true;
        }
        if (what == 1 && v >= 0 && v <= MAX_HIGH) {
            sky.high = v;
            return true;
        }
        if (what == 2 && v >= 0 && v <= MAX_HOLD) {
            sky.hold = v;
            return true;
        }
        return false;
    }

    public int can(int brook, int stick, int x, int y) {
        if (noBrook(brook) || noStick(stick) || !brookList[brook].has(x, y)) {
            return NONE;
        }
        return brookList[brook].holds(stickList[stick], x, y, sky.high) ? 1 : 0;
    }

    private boolean noBrook(int brook) {
        return brook < 0 || brook >= brookCount || brook >= brookList.length;
    }

    private boolean noStick(int stick) {
        return stick < 0 || stick >= stickCount || stick >= stickList.length;
    }

    private boolean noRunner(int runner) {
        return runner < 0 || runner >= race.size || runner >= MAX_RUNNERS;
    }

    private static boolean noSeeds(int n) {
        return n < 1 || n > MAX_SEEDS;
    }

    private static boolean noBits(int bits, int count) {
        return bits <= 0 || bits >= 1 << count;
    }

    private static boolean hasBit(int bits, int i) {
        return (bits >> i & 1) != 0;
    }

    // ---- the RACE, TICK by TICK ----

    public boolean on(int brook) {
        if (noBrook(brook)) {
            return false;
        }
        race.clear(brookList[brook]);
        return true;
    }

    public int runner(int stick, int y) {
        if (race.started || race.size >= MAX_RUNNERS || noStick(stick)) {
            return NONE;
        }
        Stick s = stickList[stick];
        if (!race.brook.holds(s, 0, y, sky.high) || (race.barredAt(0, null, sky.high) & s.lanesFrom(y)) != 0) {
            return NONE;
        }
        race.add(s, y);
        return race.size - 1;
    }

    public boolean start(long seed) {
        if (race.size == 0 || !race.fits(sky.high)) {
            return false;
        }
        race.begin(seed);
        log.note(race);
        return true;
    }

    public int tick(int n) {
        if (!race.started || n < 1 || n > MAX_TICKS) {
            return NONE;
        }
        int ran = 0;
        for (int i = 0; i < n && race.goesOn(); i++) {
            race.run(1, sky);
            log.note(race);
            ran++;
        }
        return ran;
    }

    public int look(int runner, int what) {
        if (noRunner(runner)) {
            return HIDDEN;
        }
        Runner r = race.runners[runner];
        switch (what) {
            case 0:
                return r.x;
            case 1:
                return r.y;
            case 2:
                return r.rest;
            case 3:
                return r.outTick;
            case 4:
                return race.placeOf(runner);
            case 5:
                return r.held;
            case 6:
                return r.strikes;
            default:
                return HIDDEN;
        }
    }

    public int pull(int runner) {
        if (noRunner(runner) || race.runners[runner].isOut()) {
            return NONE;
        }
        return race.pullOf(race.runners[runner], sky.high);
    }

    public int lies(int x, int y) {
        if (!race.brook.has(x, y)) {
            return NONE;
        }
        for (int i = 0; i < race.size && i < MAX_RUNNERS; i++) {
            Runner r = race.runners[i];
            if (!r.isOut() && r.x == x && hasBit(r.lanes(), y)) {
                return i;
            }
        }
        return NONE;
    }

    // ---- over many seeds ----

    public int odds(int runner, int n, int what) {
        if (noRunner(runner) || noSeeds(n) || what < 0 || what > 1 || !tallyTold(n)) {
            return NONE;
        }
        return what == 0 ? tally.wins[runner] : tally.sums[runner];
    }

    public int alone(int brook, int stick, int y, long seed) {
        if (noBrook(brook) || noStick(stick)) {
            return NONE;
        }
        return ticksAlone(brookList[brook], stickList[stick], y, seed);
    }

    public int luck(int runner, int n, int rounds, int won) {
        if (rounds < 1 || rounds > MAX_ROUNDS || won < 0 || won > rounds) {
            return NONE;
        }
        if (noRunner(runner) || noSeeds(n) || !tallyTold(n)) {
            return NONE;
        }
        spreadParts(rounds, tally.wins[runner], n);
        int tail = 0;
        for (int j = won; j <= rounds && j < parts.length; j++) {
            tail += parts[j];
        }
        return tail;
    }

    private void spreadParts(int rounds, int wins, int seeds) {
        Arrays.fill(parts, 0);
        parts[0] = ALL_PARTS;
        if (seeds < 1) {
            return;
        }
        for (int round = 0; round < rounds; round++) {
            // From the most won down, so that each part is moved once in a round.
            for (int j = parts.length - 1; j >= 0; j--) {
                int gained = j == 0 ? 0 : parts[j - 1] * wins / seeds;
                parts[j] = parts[j] * (seeds - wins) / seeds + gained;
            }
        }
    }

    public int best(int brook, int sticks, int n, int what) {
        if (noBrook(brook) || noBits(sticks, stickCount) || noSeeds(n) || what < 0 || what > 2) {
            return NONE;
        }
        Brook b = brookList[brook];
        int bestStick = NONE;
        int bestY = NONE;
        int least = NONE;
        for (int s = 0; s < stickCount && s < MAX_STICKS; s++) {
            for (int y = 0; y < b.lanes && hasBit(sticks, s); y++) {
                int sum = timeAlone(b, stickList[s], y, n);
                if (sum != NONE && (least == NONE || sum < least)) {
                    bestStick = s;
                    bestY = y;
                    least = sum;
                }
            }
        }
        if (what == 0) {
            return bestStick;
        }
        return what == 1 ? bestY : least;
    }

    public int choice(int brook, int one, int other, int n, int what) {
        if (noBrook(brook) || noStick(one) || noStick(other) || noSeeds(n) || what < 0 || what > 2) {
            return HIDDEN;
        }
        Brook b = brookList[brook];
        int firstY = NONE;
        int secondY = NONE;
        int worth = 0;
        for (int y = 0; y < b.lanes; y++) {
            int reply = NONE;
            int lead = 0;
            for (int z = 0; z < b.lanes; z++) {
                if (!placeTwo(b, stickList[one], y, stickList[other], z)) {
                    continue;
                }
                int firstLead = leadOfFirst(n);
                if (reply == NONE || firstLead < lead) {
                    reply = z;
                    lead = firstLead;
                }
            }
            if (reply != NONE && (firstY == NONE || lead > worth)) {
                firstY = y;
                secondY = reply;
                worth = lead;
            }
        }
        if (firstY == NONE) {
            return HIDDEN;
        }
        if (what == 0) {
            return firstY;
        }
        return what == 1 ? secondY : worth;
    }

    public int same(int a, int b, int n) {
        if (race.size == 0 || a < 0 || a > MAX_HIGH || b < 0 || b > MAX_HIGH || noSeeds(n)) {
            return NONE;
        }
        turnRunners(0);
        if (!scratch.fits(a) || !scratch.fits(b)) {
            return NONE;
        }
        int alike = 0;
        for (int seed = 0; seed < n; seed++) {
            if (placesWith(a, seed) == placesWith(b, seed)) {
                alike++;
            }
        }
        return alike;
    }

    /** The PLACES of all RUNNERS in one number, three bits each. */
    private int placesWith(int high, int seed) {
        flood.wind = sky.wind;
        flood.hold = sky.hold;
        flood.high = high;
        scratch.begin(seed);
        scratch.run(MAX_TICKS, flood);
        int places = 0;
        for (int i = 0; i < scratch.size; i++) {
            places = places << 3 | scratch.placeOf(i);
        }
        return places;
    }

    public int carved(int brook, int y, int rule, int what) {
        if (noBrook(brook) || !brookList[brook].has(0, y) || rule < 0 || rule > MAX_RULE || what < 0 || what > 3) {
            return NONE;
        }
        Brook b = brookList[brook];
        int bestLength = NONE;
        int bestHeavy = NONE;
        int bestFeather = NONE;
        int least = NONE;
        for (int length = 1; length <= MAX_LENGTH; length++) {
            for (int heavy = 0; heavy <= 9; heavy++) {
                for (int feather = 0; feather <= 9 && 2 * length + heavy + feather <= rule; feather++) {
                    draft.shape(length, heavy, feather);
                    int ticks = ticksAlone(b, draft, y, 0L);
                    if (ticks != NONE && (least == NONE || ticks < least)) {
                        bestLength = length;
                        bestHeavy = heavy;
                        bestFeather = feather;
                        least = ticks;
                    }
                }
            }
        }
        if (what == 0) {
            return bestLength;
        }
        if (what == 1) {
            return bestHeavy;
        }
        return what == 2 ? bestFeather : least;
    }

    /** The RUNNERS as told go to the scratch race, each from the y of the one that is k further on. */
    private void turnRunners(int k) {
        scratch.clear(race.brook);
        for (int i = 0; i < race.size && i < MAX_RUNNERS; i++) {
            int j = i + k < race.size ? i + k : i + k - race.size;
            if (j >= 0 && j < MAX_RUNNERS) {
                scratch.add(race.runners[i].stick, race.runners[j].startY);
            }
        }
    }

    private boolean tallyTold(int n) {
        turnRunners(0);
        if (!scratch.fits(sky.high)) {
            return false;
        }
        tally.clear();
        tallySeeds(n);
        return true;
    }

    private void tallySeeds(int n) {
        for (int seed = 0; seed < n; seed++) {
            // A RACE without any draw is the same for every seed: it is run once.
            if (seed == 0 || scratch.drew) {
                scratch.begin(seed);
                scratch.run(MAX_TICKS, sky);
            }
            tally.add(scratch);
        }
    }

    private boolean placeTwo(Brook b, Stick one, int y, Stick other, int z) {
        scratch.clear(b);
        scratch.add(one, y);
        scratch.add(other, z);
        return scratch.fits(sky.high);
    }

    private int leadOfFirst(int n) {
        tally.clear();
        tallySeeds(n);
        return tally.wins[0] - tally.wins[1];
    }

    private boolean placeOne(Brook b, Stick s, int y) {
        scratch.clear(b);
        scratch.add(s, y);
        return scratch.fits(sky.high);
    }

    /** ALONE; NONE if it CAN not lie there. */
    private int ticksAlone(Brook b, Stick s, int y, long seed) {
        if (!placeOne(b, s, y)) {
            return NONE;
        }
        scratch.begin(seed);
        scratch.run(MAX_TICKS, sky);
        return scratch.ticksOfFirst();
    }

    /** Puts ALONE over n seeds into the row of times and answers their sum; NONE if it CAN not lie there. */
    private int timeAlone(Brook b, Stick s, int y, int n) {
        times.clear();
        if (!placeOne(b, s, y)) {
            return NONE;
        }
        for (int seed = 0; seed < n; seed++) {
            // As in tallySeeds: without any draw all seeds are alike.
            if (seed == 0 || scratch.drew) {
                scratch.begin(seed);
                scratch.run(MAX_TICKS, sky);
            }
            times.add(scratch.ticksOfFirst());
        }
        return times.sum;
    }

    // ---- which BROOK it is ----

    public int trials(int brooks, int sticks, int i) {
        if (!findTrials(brooks, sticks)) {
            return NONE;
        }
        if (i == NONE) {
            return book.size;
        }
        return i < 0 || i >= book.size || i >= MAX_TRIALS ? NONE : book.codes[i];
    }

    public int plan(int brooks, int sticks, int what) {
        if (what < 0 || what > 1 || !findTrials(brooks, sticks) || book.size == 0) {
            return NONE;
        }
        partPairs(brooks);
        int bestTrial = 0;
        int most = NONE;
        for (int i = 0; i < book.size && i < MAX_TRIALS; i++) {
            int pairs = Integer.bitCount(book.parted[i]);
            if (pairs > most) {
                bestTrial = i;
                most = pairs;
            }
        }
        return what == 0 ? bestTrial : most;
    }

    public int fewest(int brooks, int sticks) {
        if (!findTrials(brooks, sticks)) {
            return NONE;
        }
        partPairs(brooks);
        return book.leastSet();
    }

    /** Fills the book with the TRIALS; false: no such ones, or more than are told. */
    private boolean findTrials(int brooks, int sticks) {
        book.size = 0;
        if (noBits(brooks, brookCount) || noBits(sticks, stickCount)) {
            return false;
        }
        for (int s = 0; s < stickCount && s < MAX_STICKS; s++) {
            for (int y = 0; y < MAX_LANES && hasBit(sticks, s); y++) {
                if (liesOnAll(brooks, stickList[s], y) && !book.add(16 * s + y)) {
                    return false;
                }
            }
        }
        return true;
    }

    private boolean liesOnAll(int brooks, Stick s, int y) {
        for (int b = 0; b < brookCount && b < MAX_BROOKS; b++) {
            if (hasBit(brooks, b) && !brookList[b].holds(s, 0, y, sky.high)) {
                return false;
            }
        }
        return true;
    }

    private void partPairs(int brooks) {
        for (int i = 0; i < book.size && i < MAX_TRIALS; i++) {
            int stick = book.codes[i] / 16;
            int y = book.codes[i] % 16;
            for (int b = 0; b < brookCount && b < MAX_BROOKS; b++) {
                boolean meant = hasBit(brooks, b) && !noStick(stick);
                book.seen[b] = meant ? ticksAlone(brookList[b], stickList[stick], y, 0L) : NONE;
            }
            book.partPairs(i, brooks);
        }
    }

    public int sight(int stick, int y, int ticks) {
        if (noStick(stick) || y < 0 || y >= MAX_LANES || ticks < 1 || ticks > NOT_OUT) {
            return NONE;
        }
        return sights.add(stick, y, ticks);
    }

    public int agree() {
        int bits = 0;
        for (int b = 0; b < brookCount && b < MAX_BROOKS; b++) {
            if (agrees(brookList[b])) {
                bits |= 1 << b;
            }
        }
        return bits;
    }

    private boolean agrees(Brook b) {
        for (int i = 0; i < sights.size && i < MAX_SIGHTS; i++) {
            int stick = sights.sticks[i];
            if (noStick(stick) || ticksAlone(b, stickList[stick], sights.ys[i], 0L) != sights.ticks[i]) {
                return false;
            }
        }
        return true;
    }

    public int stoned(int brook, int i) {
        if (noBrook(brook) || i < NONE) {
            return NONE;
        }
        mould.copyFrom(brookList[brook]);
        int found = 0;
        for (int y = 0; y < mould.lanes; y++) {
            for (int x = 0; x < mould.cells; x++) {
                int sign = mould.signAt(x, y);
                mould.put(x, y, Brook.STONE);
                boolean agreed = sign != Brook.STONE && agrees(mould);
                mould.put(x, y, sign);
                if (agreed && found == i) {
                    return 16 * y + x;
                }
                found += agreed ? 1 : 0;
            }
        }
        return i == NONE ? found : NONE;
    }

    public int fair(int brook, int stick, int turns, int what) {
        if (noBrook(brook) || noStick(stick) || turns < 2 || turns > MAX_TURNS || what < 0 || what > 1) {
            return NONE;
        }
        Brook b = brookList[brook];
        times.clear();
        for (int y = 0; y < b.lanes; y++) {
            int ticks = ticksAlone(b, stickList[stick], y, 0L);
            if (ticks != NONE) {
                times.add(ticks);
            }
        }
        if (times.size < turns) {
            return NONE;
        }
        int fairest = NONE;
        int least = NONE;
        for (int row = 0; row < 1 << turns; row++) {
            int gap = Integer.bitCount(row) == turns / 2 ? gapOf(row, turns) : NONE;
            if (gap != NONE && (least == NONE || gap < least)) {
                fairest = row;
                least = gap;
            }
        }
        return what == 0 ? fairest : least;
    }

    /** By how much what A has differs from what B has, the best y being taken first. */
    private int gapOf(int row, int turns) {
        int gap = 0;
        for (int k = 0; k < turns; k++) {
            int worth = MAX_TICKS - times.at(k);
            gap += hasBit(row, turns - 1 - k) ? -worth : worth;
        }
        return gap < 0 ? -gap : gap;
    }

    // ---- the RACE as it was run ----

    public int image() {
        if (!race.started) {
            return NONE;
        }
        keptRace.copyFrom(race);
        keptLog.copyFrom(log);
        return race.ticks;
    }

    public int back() {
        if (!keptRace.started) {
            return NONE;
        }
        race.copyFrom(keptRace);
        log.copyFrom(keptLog);
        return race.ticks;
    }

    public int was(int runner, int tick, int what) {
        if (noRunner(runner) || noTick(tick) || what < 0 || what > 1) {
            return NONE;
        }
        return what == 0 ? log.xAt(tick, runner) : log.yAt(tick, runner);
    }

    private boolean noTick(int tick) {
        return !race.started || tick < 0 || tick > race.ticks;
    }

    public int passed(int runner, int x) {
        if (!race.started || noRunner(runner) || x < 1 || x > MAX_CELLS) {
            return NONE;
        }
        for (int t = 1; t <= race.ticks; t++) {
            if (log.xAt(t, runner) >= x) {
                return t;
            }
        }
        return NONE;
    }

    public int leader(int tick) {
        return noTick(tick) ? NONE : log.leaderAt(tick);
    }

    public int led(int runner) {
        if (!race.started || (runner != NONE && noRunner(runner))) {
            return NONE;
        }
        return runner == NONE ? log.changes(race.ticks) : log.ticksLed(runner, race.ticks);
    }

    public int struck(int x) {
        if (!race.started || x < NONE || x >= MAX_CELLS) {
            return NONE;
        }
        return x == NONE ? race.narrow() : race.strikesAt[x];
    }

    // ---- by turns, duels and ladders ----

    public int rounds(int runner, int n, int what) {
        if (noRunner(runner) || noSeeds(n) || what < 0 || what > 2) {
            return NONE;
        }
        tally.clear();
        int counted = 0;
        for (int k = 0; k < race.size; k++) {
            turnRunners(k);
            if (scratch.fits(sky.high)) {
                tallySeeds(n);
                counted++;
            }
        }
        if (what == 0) {
            return tally.wins[runner];
        }
        return what == 1 ? tally.sums[runner] : counted;
    }

    public int duel(int brook, int one, int other, int n) {
        if (noBrook(brook) || noStick(one) || noStick(other) || noSeeds(n)) {
            return HIDDEN;
        }
        Brook b = brookList[brook];
        boolean met = false;
        int lead = 0;
        for (int y = 0; y < b.lanes; y++) {
            for (int z = 0; z < b.lanes; z++) {
                if (placeTwo(b, stickList[one], y, stickList[other], z)) {
                    met = true;
                    lead += leadOfFirst(n);
                }
            }
        }
        return met ? lead : HIDDEN;
    }

    public int ladder(int brook, int sticks, int n, int i) {
        if (noBrook(brook) || noBits(sticks, stickCount) || noSeeds(n) || i < NONE) {
            return NONE;
        }
        rungs.clear();
        for (int s = 0; s < stickCount && s < MAX_STICKS; s++) {
            int sum = hasBit(sticks, s) ? leastSum(brookList[brook], stickList[s], n) : NONE;
            if (sum != NONE) {
                // The STICK's number as the low bits: of one sum the lowest STICK comes first.
                rungs.add(16 * sum + s);
            }
        }
        if (i == NONE) {
            return rungs.size;
        }
        return i >= rungs.size ? NONE : rungs.at(i) % 16;
    }

    private int leastSum(Brook b, Stick s, int n) {
        int least = NONE;
        for (int y = 0; y < b.lanes; y++) {
            int sum = timeAlone(b, s, y, n);
            if (sum != NONE && (least == NONE || sum < least)) {
                least = sum;
            }
        }
        return least;
    }

    public int reach(int brook, int stick, int y, int n, int what) {
        if (noBrook(brook) || noStick(stick) || noSeeds(n) || what < 0 || what > 2) {
            return NONE;
        }
        if (timeAlone(brookList[brook], stickList[stick], y, n) == NONE) {
            return NONE;
        }
        if (what == 0) {
            return times.at(0);
        }
        return what == 1 ? times.at(n - 1) : times.at((n - 1) / 2);
    }

    public int close(int n) {
        if (race.size < 2 || noSeeds(n) || !tallyTold(n)) {
            return NONE;
        }
        return tally.ties;
    }

    public int count(int what) {
        switch (what) {
            case 0:
                return brookCount;
            case 1:
                return stickCount;
            case 2:
                return race.size;
            case 3:
                return sights.size;
            case 4:
                return tape.length;
            case 5:
                return race.started ? race.ticks : NONE;
            case 6:
                return sky.wind;
            case 7:
                return sky.high;
            case 8:
                return sky.hold;
            default:
                return HIDDEN;
        }
    }

    // ---- the classes inside ----

    private static final class Weather {
        int wind;
        int high;
        int hold = 5;
    }

    private static final class Stick {
        int length = 1;
        int heavy = 5;
        int feather;

        void shape(int newLength, int newHeavy, int newFeather) {
            length = newLength;
            heavy = newHeavy;
            feather = newFeather;
        }

        /** Puts a number behind a letter (0 l, 1 h, 2 f); false: out of bounds. */
        boolean put(int letter, int number) {
            if (number > (letter == 0 ? MAX_LENGTH : 9) || number < (letter == 0 ? 1 : 0)) {
                return false;
            }
            if (letter == 0) {
                length = number;
            } else if (letter == 1) {
                heavy = number;
            } else {
                feather = number;
            }
            return true;
        }

        /** The LANES from y on as bits. */
        int lanesFrom(int y) {
            return ((1 << length) - 1) << y;
        }
    }

    private static final class Brook {
        static final int STONE = 'o';
        static final int EDDY = '@';

        final int[] signs = new int[MAX_LANES * MAX_CELLS];
        // By x, the LANES that have a STONE, an EDDY there, as bits.
        final int[] stones = new int[MAX_CELLS];
        final int[] eddies = new int[MAX_CELLS];
        int lanes;
        int cells;

        void clear() {
            lanes = 0;
            cells = 0;
            Arrays.fill(signs, 0);
            Arrays.fill(stones, 0);
            Arrays.fill(eddies, 0);
        }

        void copyFrom(Brook other) {
            lanes = other.lanes;
            cells = other.cells;
            System.arraycopy(other.signs, 0, signs, 0, MAX_LANES * MAX_CELLS);
            System.arraycopy(other.stones, 0, stones, 0, MAX_CELLS);
            System.arraycopy(other.eddies, 0, eddies, 0, MAX_CELLS);
        }

        void put(int x, int y, int sign) {
            if (x < 0 || x >= MAX_CELLS || y < 0 || y >= MAX_LANES) {
                return;
            }
            int lane = 1 << y;
            signs[MAX_CELLS * y + x] = sign;
            stones[x] = sign == STONE ? stones[x] | lane : stones[x] & ~lane;
            eddies[x] = sign == EDDY ? eddies[x] | lane : eddies[x] & ~lane;
        }

        boolean has(int x, int y) {
            return x >= 0 && x < cells && y >= 0 && y < lanes;
        }

        int signAt(int x, int y) {
            return x < 0 || x >= MAX_CELLS || y < 0 || y >= MAX_LANES ? 0 : signs[MAX_CELLS * y + x];
        }

        int paceAt(int x, int y, int high) {
            int sign = signAt(x, y);
            if (sign == STONE) {
                return 1;
            }
            return (sign == EDDY ? 1 : sign - '0') + high;
        }

        int stonesAt(int x) {
            return x < 0 || x >= MAX_CELLS ? 0 : stones[x];
        }

        int eddiesAt(int x) {
            return x < 0 || x >= MAX_CELLS ? 0 : eddies[x];
        }

        int stonesInAll() {
            int sum = 0;
            for (int x = 0; x < MAX_CELLS; x++) {
                sum += Integer.bitCount(stones[x]);
            }
            return sum;
        }

        int eddiesInAll() {
            int sum = 0;
            for (int x = 0; x < MAX_CELLS; x++) {
                sum += Integer.bitCount(eddies[x]);
            }
            return sum;
        }

        static boolean stonesBar(int high) {
            return high < 2;
        }

        /** Whether a STICK CAN lie there. */
        boolean holds(Stick s, int x, int y, int high) {
            if (x < 0 || x >= cells || y < 0 || y > lanes - s.length) {
                return false;
            }
            return !stonesBar(high) || (stonesAt(x) & s.lanesFrom(y)) == 0;
        }
    }

    private static final class Tape {
        final int[] bytes = new int[MAX_TAPE];
        int length;

        static int bytesIn(int number) {
            int n = 0;
            for (int shift = 0; shift < 32; shift += 8) {
                if ((number >>> shift & 255) != 0) {
                    n++;
                }
            }
            return n;
        }

        void append(int number) {
            for (int shift = 24; shift >= 0; shift -= 8) {
                int b = number >>> shift & 255;
                if (b != 0 && length >= 0 && length < bytes.length) {
                    bytes[length] = b;
                    length++;
                }
            }
        }

        /** The byte there; 0, which no TAPE has, behind the last. */
        int byteAt(int i) {
            return i < 0 || i >= length || i >= bytes.length ? 0 : bytes[i];
        }

        static boolean isCell(int b) {
            return (b >= '1' && b <= '9') || b == Brook.STONE || b == Brook.EDDY;
        }

        /** Reads the TAPE as a BROOK: its FAULT, or NONE when all of it was read. */
        int readBrook(Brook into) {
            into.clear();
            int lane = 0;
            int x = 0;
            for (int i = 0; i < length; i++) {
                int b = byteAt(i);
                if (isCell(b)) {
                    if (x >= (lane == 0 ? MAX_CELLS : into.cells)) {
                        return i;
                    }
                    into.put(x, lane, b);
                    x++;
                } else if (b == ';') {
                    if (lane >= MAX_LANES - 1 || x < (lane == 0 ? MIN_CELLS : into.cells)) {
                        return i;
                    }
                    into.cells = x;
                    lane++;
                    x = 0;
                } else if (b != ' ') {
                    return i;
                }
            }
            into.lanes = lane + 1;
            return into.lanes < MIN_LANES || x < into.cells ? length : NONE;
        }

        /** Reads the TAPE as a STICK: its FAULT, or NONE when all of it was read. */
        int readStick(Stick into) {
            into.shape(1, 5, 0);
            int seen = 0;
            int i = 0;
            // A fourth ITEM's letter was there, so the loop always ends by an answer.
            for (int item = 0; item < 4; item++) {
                i = skipBlanks(i);
                int letter = letterOf(byteAt(i));
                if (letter == NONE || (seen >> letter & 1) != 0) {
                    return i;
                }
                seen |= 1 << letter;
                i = skipBlanks(i + 1);
                int digits = digitsFrom(i);
                if (digits == 0 || digits > 2) {
                    return digits == 0 ? i : i + 2;
                }
                int number = byteAt(i) - '0';
                if (digits == 2) {
                    number = 10 * number + byteAt(i + 1) - '0';
                }
                if (!into.put(letter, number)) {
                    return i + digits - 1;
                }
                i = skipBlanks(i + digits);
                if (i >= length) {
                    return NONE;
                }
                if (byteAt(i) != ',') {
                    return i;
                }
                i++;
            }
            return i;
        }

        static int letterOf(int b) {
            if (b == 'l') {
                return 0;
            }
            if (b == 'h') {
                return 1;
            }
            return b == 'f' ? 2 : NONE;
        }

        int skipBlanks(int from) {
            int i = from;
            while (i < length && byteAt(i) == ' ') {
                i++;
            }
            return i;
        }

        /** How many digits stand there; three are too many already. */
        int digitsFrom(int i) {
            int n = 0;
            while (n < 3 && byteAt(i + n) >= '0' && byteAt(i + n) <= '9') {
                n++;
            }
            return n;
        }
    }

    private static final class Runner {
        Stick stick = new Stick();
        int startY;
        int x;
        int y;
        int rest;
        int outTick = NONE;
        int place = NONE;
        int held;
        int strikes;

        void begin() {
            x = 0;
            y = startY;
            rest = 0;
            outTick = NONE;
            place = NONE;
            held = 0;
            strikes = 0;
        }

        boolean isOut() {
            return place != NONE;
        }

        int lanes() {
            return ((1 << stick.length) - 1) << y;
        }

        void copyFrom(Runner other) {
            stick = other.stick;
            startY = other.startY;
            x = other.x;
            y = other.y;
            rest = other.rest;
            outTick = other.outTick;
            place = other.place;
            held = other.held;
            strikes = other.strikes;
        }
    }

    private static final class Race {
        final Runner[] runners = new Runner[MAX_RUNNERS];
        final int[] order = new int[MAX_RUNNERS];
        // By x, how many strikes RUNNERS made there.
        final int[] strikesAt = new int[MAX_CELLS];
        Brook brook = new Brook();
        int size;
        int ticks;
        int out;
        long draws;
        boolean drew;
        boolean started;

        Race() {
            for (int i = 0; i < runners.length; i++) {
                runners[i] = new Runner();
            }
        }

        void clear(Brook onto) {
            brook = onto;
            size = 0;
            ticks = 0;
            out = 0;
            started = false;
        }

        void add(Stick stick, int y) {
            if (size < 0 || size >= MAX_RUNNERS) {
                return;
            }
            Runner r = runners[size];
            r.stick = stick;
            r.startY = y;
            r.begin();
            size++;
        }

        /** Whether all CAN lie at their starts, no two on one CELL. */
        boolean fits(int high) {
            int taken = 0;
            for (int i = 0; i < size && i < MAX_RUNNERS; i++) {
                Runner r = runners[i];
                if (!brook.holds(r.stick, 0, r.startY, high)) {
                    return false;
                }
                int lanes = r.stick.lanesFrom(r.startY);
                if ((taken & lanes) != 0) {
                    return false;
                }
                taken |= lanes;
            }
            return true;
        }

        void begin(long seed) {
            ticks = 0;
            out = 0;
            draws = seed;
            drew = false;
            started = true;
            Arrays.fill(strikesAt, 0);
            for (int i = 0; i < size && i < MAX_RUNNERS; i++) {
                runners[i].begin();
            }
        }

        boolean goesOn() {
            return ticks < MAX_TICKS && out < size;
        }

        void run(int n, Weather w) {
            for (int t = 0; t < n && goesOn(); t++) {
                ticks++;
                sortByX();
                for (int i = 0; i < size && i < MAX_RUNNERS; i++) {
                    int next = order[i];
                    if (next >= 0 && next < MAX_RUNNERS && !runners[next].isOut()) {
                        move(runners[next], w);
                    }
                }
            }
        }

        /** The greatest x first, of several the lowest number. */
        private void sortByX() {
            for (int i = 0; i < size && i < MAX_RUNNERS; i++) {
                int to = i;
                while (to > 0 && xOf(order[to - 1]) < xOf(i)) {
                    order[to] = order[to - 1];
                    to--;
                }
                order[to] = i;
            }
        }

        private int xOf(int i) {
            return i < 0 || i >= MAX_RUNNERS ? 0 : runners[i].x;
        }

        private int drawOfTen() {
            draws = draws * 6364136223846793005L + 1442695040888963407L;
            drew = true;
            return (int) ((draws >>> 33) % 10L);
        }

        private void move(Runner r, Weather w) {
            if ((brook.eddiesAt(r.x) & r.lanes()) != 0 && drawOfTen() < w.hold) {
                r.rest = 0;
                r.held++;
                return;
            }
            r.rest += pullOf(r, w.high) + (onWave(r) ? 1 : 0);
            for (int step = 0; step < MAX_CELLS && r.rest >= 4; step++) {
                r.rest -= 4;
                if (r.x + 1 >= brook.cells) {
                    leave(r);
                    return;
                }
                int barred = barredAt(r.x + 1, r, w.high) & r.lanes();
                if (barred != 0) {
                    strike(r);
                    goAside(r, awayFrom(barred, r), w.high);
                    return;
                }
                r.x++;
            }
            if (r.stick.feather * (w.wind < 0 ? -w.wind : w.wind) >= 9) {
                goAside(r, w.wind > 0 ? r.y + 1 : r.y - 1, w.high);
            }
        }

        int pullOf(Runner r, int high) {
            int most = 0;
            int sum = 0;
            int length = r.stick.length;
            for (int lane = 0; lane < length; lane++) {
                int pace = brook.paceAt(r.x, r.y + lane, high);
                most = pace > most ? pace : most;
                sum += pace;
            }
            int force = length < 3 ? most : sum / length;
            if (r.stick.heavy > 5) {
                force -= (r.stick.heavy - 5) / 2;
            }
            return force < 0 ? 0 : force;
        }

        private boolean onWave(Runner r) {
            for (int i = 0; i < size && i < MAX_RUNNERS; i++) {
                Runner other = runners[i];
                int ahead = other.x - r.x;
                if (!other.isOut() && (ahead == 1 || ahead == 2) && (other.lanes() & r.lanes()) != 0) {
                    return true;
                }
            }
            return false;
        }

        private void leave(Runner r) {
            r.x = brook.cells;
            r.outTick = ticks;
            r.place = out;
            out++;
        }

        private void strike(Runner r) {
            r.rest = 0;
            r.strikes++;
            if (r.x >= 0 && r.x < MAX_CELLS) {
                strikesAt[r.x]++;
            }
        }

        /** The y to which it goes aside: away from the lowest of its LANES that is barred. */
        private static int awayFrom(int barred, Runner r) {
            int s = 0;
            while (s < MAX_LANES && (barred >> s & 1) == 0) {
                s++;
            }
            return 2 * (s - r.y) < r.stick.length ? r.y + 1 : r.y - 1;
        }

        private void goAside(Runner r, int y, int high) {
            if (y < 0 || y > brook.lanes - r.stick.length) {
                return;
            }
            if ((barredAt(r.x, r, high) & r.stick.lanesFrom(y)) == 0) {
                r.y = y;
            }
        }

        /** The LANES at x that bar a RUNNER (null: any): by a STONE, by another RUNNER. */
        int barredAt(int x, Runner self, int high) {
            int barred = Brook.stonesBar(high) ? brook.stonesAt(x) : 0;
            for (int i = 0; i < size && i < MAX_RUNNERS; i++) {
                Runner other = runners[i];
                if (other != self && !other.isOut() && other.x == x) {
                    barred |= other.lanes();
                }
            }
            return barred;
        }

        int placeOf(int i) {
            return i < 0 || i >= MAX_RUNNERS || !runners[i].isOut() ? size : runners[i].place;
        }

        int ticksOfFirst() {
            return runners[0].isOut() ? runners[0].outTick : NOT_OUT;
        }

        /** The LEADER as the RACE stands. */
        int foremost() {
            int first = 0;
            for (int i = 0; i < size && i < MAX_RUNNERS; i++) {
                if (runners[i].place == 0) {
                    return i;
                }
                if (runners[i].x > xOf(first)) {
                    first = i;
                }
            }
            return first;
        }

        int narrow() {
            int most = 0;
            int at = NONE;
            for (int x = 0; x < MAX_CELLS; x++) {
                if (strikesAt[x] > most) {
                    most = strikesAt[x];
                    at = x;
                }
            }
            return at;
        }

        void copyFrom(Race other) {
            brook = other.brook;
            size = other.size;
            ticks = other.ticks;
            out = other.out;
            draws = other.draws;
            drew = other.drew;
            started = other.started;
            System.arraycopy(other.strikesAt, 0, strikesAt, 0, MAX_CELLS);
            for (int i = 0; i < MAX_RUNNERS; i++) {
                runners[i].copyFrom(other.runners[i]);
            }
        }
    }

    /** Where all RUNNERS were behind each TICK, and who led. */
    private static final class Log {
        static final int CELLS = (MAX_TICKS + 1) * MAX_RUNNERS;

        final int[] xs = new int[CELLS];
        final int[] ys = new int[CELLS];
        final int[] leaders = new int[MAX_TICKS + 1];

        void note(Race race) {
            int tick = race.ticks;
            if (tick < 0 || tick > MAX_TICKS) {
                return;
            }
            leaders[tick] = race.foremost();
            for (int i = 0; i < race.size && i < MAX_RUNNERS; i++) {
                xs[MAX_RUNNERS * tick + i] = race.runners[i].x;
                ys[MAX_RUNNERS * tick + i] = race.runners[i].y;
            }
        }

        private static boolean noEntry(int tick, int runner) {
            return tick < 0 || tick > MAX_TICKS || runner < 0 || runner >= MAX_RUNNERS;
        }

        int xAt(int tick, int runner) {
            return noEntry(tick, runner) ? NONE : xs[MAX_RUNNERS * tick + runner];
        }

        int yAt(int tick, int runner) {
            return noEntry(tick, runner) ? NONE : ys[MAX_RUNNERS * tick + runner];
        }

        int leaderAt(int tick) {
            return tick < 0 || tick > MAX_TICKS ? NONE : leaders[tick];
        }

        int ticksLed(int runner, int ticks) {
            int n = 0;
            for (int t = 1; t <= ticks && t <= MAX_TICKS; t++) {
                if (leaders[t] == runner) {
                    n++;
                }
            }
            return n;
        }

        int changes(int ticks) {
            int n = 0;
            for (int t = 2; t <= ticks && t <= MAX_TICKS; t++) {
                if (leaders[t] != leaders[t - 1]) {
                    n++;
                }
            }
            return n;
        }

        void copyFrom(Log other) {
            System.arraycopy(other.xs, 0, xs, 0, CELLS);
            System.arraycopy(other.ys, 0, ys, 0, CELLS);
            System.arraycopy(other.leaders, 0, leaders, 0, MAX_TICKS + 1);
        }
    }

    /** What whole RACES over several seeds come to. */
    private static final class Tally {
        final int[] wins = new int[MAX_RUNNERS];
        final int[] sums = new int[MAX_RUNNERS];
        // RACES with the first two OUT in one TICK.
        int ties;

        void clear() {
            ties = 0;
            Arrays.fill(wins, 0);
            Arrays.fill(sums, 0);
        }

        void add(Race race) {
            int firstTick = NONE;
            int secondTick = NONE;
            for (int i = 0; i < race.size && i < MAX_RUNNERS; i++) {
                int place = race.placeOf(i);
                sums[i] += place;
                if (place == 0) {
                    wins[i]++;
                    firstTick = race.runners[i].outTick;
                } else if (place == 1) {
                    secondTick = race.runners[i].outTick;
                }
            }
            if (firstTick != NONE && firstTick == secondTick) {
                ties++;
            }
        }
    }

    /** Numbers in rising order, and their sum. */
    private static final class Row {
        final int[] values = new int[MAX_SEEDS];
        int size;
        int sum;

        void clear() {
            size = 0;
            sum = 0;
        }

        void add(int value) {
            if (size < 0 || size >= MAX_SEEDS) {
                return;
            }
            int to = size;
            while (to > 0 && values[to - 1] > value) {
                values[to] = values[to - 1];
                to--;
            }
            values[to] = value;
            size++;
            sum += value;
        }

        int at(int i) {
            return i < 0 || i >= size || i >= MAX_SEEDS ? NONE : values[i];
        }
    }

    private static final class Sights {
        final int[] sticks = new int[MAX_SIGHTS];
        final int[] ys = new int[MAX_SIGHTS];
        final int[] ticks = new int[MAX_SIGHTS];
        int size;

        /** How many there are then; NONE: no room. */
        int add(int stick, int y, int seenTicks) {
            if (size < 0 || size >= MAX_SIGHTS) {
                return NONE;
            }
            sticks[size] = stick;
            ys[size] = y;
            ticks[size] = seenTicks;
            size++;
            return size;
        }
    }

    private static final class TrialBook {
        // 16 times the STICK and y.
        final int[] codes = new int[MAX_TRIALS];
        // The pairs of BROOKS that each parts, as bits.
        final int[] parted = new int[MAX_TRIALS];
        // ALONE on each BROOK, of the TRIAL at hand.
        final int[] seen = new int[MAX_BROOKS];
        int size;

        /** False: no room. */
        boolean add(int code) {
            if (size < 0 || size >= MAX_TRIALS) {
                return false;
            }
            codes[size] = code;
            size++;
            return true;
        }

        void partPairs(int trial, int brooks) {
            if (trial < 0 || trial >= MAX_TRIALS) {
                return;
            }
            int pairs = 0;
            int pair = 0;
            for (int a = 0; a < MAX_BROOKS; a++) {
                for (int b = a + 1; b < MAX_BROOKS; b++) {
                    if (hasBit(brooks, a) && hasBit(brooks, b) && seen[a] != seen[b]) {
                        pairs |= 1 << pair;
                    }
                    pair++;
                }
            }
            parted[trial] = pairs;
        }

        /** FEWEST, as bits. */
        int leastSet() {
            int all = partedBy((1 << MAX_TRIALS) - 1);
            int least = NONE;
            int leastSize = MAX_TRIALS + 1;
            for (int set = 0; set < 1 << size; set++) {
                int setSize = Integer.bitCount(set);
                boolean better = setSize < leastSize || (setSize == leastSize && lowerFirst(set, least));
                if (better && partedBy(set) == all) {
                    least = set;
                    leastSize = setSize;
                }
            }
            return least;
        }

        /** Whether of two sets the first has the lower TRIAL where they first differ. */
        private static boolean lowerFirst(int set, int other) {
            int differ = set ^ other;
            return (set & differ & -differ) != 0;
        }

        private int partedBy(int set) {
            int pairs = 0;
            for (int i = 0; i < size && i < MAX_TRIALS; i++) {
                if (hasBit(set, i)) {
                    pairs |= parted[i];
                }
            }
            return pairs;
        }
    }
}
