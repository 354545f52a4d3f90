import java.util.ArrayList;
import java.util.Arrays;
import java.util.List;

/** The document, sentence by sentence: part 4 of the terms, promises 25 to 33. */
final class EdgesOfTrials {
    private static final int NONE = Checks.NONE;
    private static final int MIN = Integer.MIN_VALUE;
    private static final int MAX = Integer.MAX_VALUE;
    // Some of these alike, some not, with LANES of several numbers and STONES at x 0.
    private static final String[] BROOKS = {"4444;44@4;3333", "44444;o3333;4@444;22222", "4o44;4444;1111", "4444;44@4;333o",
        "o444;4444;3339;4444;4444;4444", "4444;4444;3333"};
    private static final String[] STICKS = {"l1", "h9", "l2,f9", "l3"};

    private EdgesOfTrials() {
    }

    static void all() {
        trialsOfSome();
        partedPairs();
        plans();
        fewestOfAll();
        sightsAtMost();
        brooksThatAgree();
        cellsStoned();
        turns();
        worth();
        fairestRows();
        images();
        trials();
        plan();
        fewest();
        sight();
        agree();
        stoned();
        fair();
        image();
        back();
    }

    private static StickRace told(String[] brooks, String[] sticks) {
        StickRace r = new StickRace();
        for (String b : brooks) {
            Checks.brook(r, b);
        }
        for (String s : sticks) {
            Checks.stick(r, s);
        }
        return r;
    }

    private static boolean has(int bits, int i) {
        return (bits >> i & 1) != 0;
    }

    /** The TRIALS (16 times the STICK and y), found by asking where each STICK CAN lie. */
    private static List<Integer> trialsDue(StickRace r, int brooks, int sticks) {
        List<Integer> due = new ArrayList<>();
        for (int s = 0; s < 10; s++) {
            for (int y = 0; y < 6 && has(sticks, s); y++) {
                boolean can = true;
                for (int b = 0; b < 6; b++) {
                    can &= !has(brooks, b) || r.can(b, s, 0, y) == 1;
                }
                if (can) {
                    due.add(16 * s + y);
                }
            }
        }
        return due;
    }

    /** Of each TRIAL which pairs of BROOKS it parts. */
    private static List<boolean[]> pairsDue(StickRace r, int brooks, List<Integer> trials) {
        List<boolean[]> due = new ArrayList<>();
        for (int t : trials) {
            boolean[] pairs = new boolean[36];
            for (int a = 0; a < 6; a++) {
                for (int b = a + 1; b < 6; b++) {
                    boolean both = has(brooks, a) && has(brooks, b);
                    pairs[6 * a + b] = both && r.alone(a, t / 16, t % 16, 0L) != r.alone(b, t / 16, t % 16, 0L);
                }
            }
            due.add(pairs);
        }
        return due;
    }

    private static int many(boolean[] pairs) {
        int n = 0;
        for (boolean p : pairs) {
            n += p ? 1 : 0;
        }
        return n;
    }

    // ---- Terms 4 ----

    private static void trialsOfSome() {
        Edge.of("Terms 4", "TRIALS of some STICKS on some BROOKS (bits both): a STICK and a y at which it CAN lie on all "
            + "of these, by STICKS, then y; "
            + "12 at most (else nothing is told).");
        for (int high = 0; high <= 2; high += 2) {
            for (int brooks = 1; brooks < 64; brooks++) {
                StickRace asked = told(BROOKS, STICKS);
                asked.weather(1, high);
                int sticks = 1 + (7 * brooks + high) % 15;
                List<Integer> due = trialsDue(asked, brooks, sticks);
                StickRace r = told(BROOKS, STICKS);
                r.weather(1, high);
                String call = "HIGH " + high + ": trials(" + brooks + ", " + sticks + ", ";
                boolean told = due.size() <= 12;
                Checks.due(call + "NONE)", r.trials(brooks, sticks, NONE), told ? due.size() : NONE);
                for (int i = 0; i <= due.size(); i++) {
                    Checks.due(call + i + ")", r.trials(brooks, sticks, i), told && i < due.size() ? due.get(i) : NONE);
                }
            }
        }
        // Two y for each of l1, one for each of l2: 12, then 13.
        String[] sticks = {"l1", "l1", "l1", "l2", "l2", "l2", "l2", "l2", "l2", "l1"};
        StickRace r = told(new String[] {"4444;4444"}, sticks);
        Checks.due("12", r.trials(1, 0x1FF, NONE), 12);
        Checks.due("the last of 12", r.trials(1, 0x1FF, 11), 16 * 8);
        Checks.due("one of 12 is PLAN", r.plan(1, 0x1FF, 0), 0);
        Checks.due("FEWEST of 12", r.fewest(1, 0x1FF), 0);
        Checks.due("14: nothing is told", r.trials(1, 0x3FF, NONE), NONE);
        Checks.due("13: nothing is told", r.trials(1, 0x3F7, NONE), NONE);
        Checks.due("13: no first one", r.trials(1, 0x3F7, 0), NONE);
        Checks.due("13: no PLAN", r.plan(1, 0x3F7, 0), NONE);
        Checks.due("13: no FEWEST", r.fewest(1, 0x3F7), NONE);
        Checks.due("12 of others", r.trials(1, 0x3E7, NONE), 12);
    }

    private static void partedPairs() {
        Edge.of("Terms 4", "Two BROOKS are PARTED by a TRIAL, if ALONE with seed 0 is unlike on both.");
        // From LANE 0: OUT in TICKS 4, 4, 8, never, never; the draws of seed 0 are 7 4 7 6 .. for the EDDY of the last.
        String[] brooks = {"4444;4444", "4444;1111", "2222;4444", "444o;444o", "444o;o44o", "@444;4444"};
        StickRace r = told(brooks, new String[] {"l1"});
        r.weather(2, 7);
        int[] ticks = new int[6];
        for (int b = 0; b < 6; b++) {
            ticks[b] = r.alone(b, 0, 0, 0L);
        }
        Checks.due("the EDDY takes longer (1: yes)", ticks[5] > 8, true);
        for (int a = 0; a < 6; a++) {
            for (int b = a + 1; b < 6; b++) {
                if (a != 4 && b != 4) {
                    int unlike = ticks[a] != ticks[b] || r.alone(a, 0, 1, 0L) != r.alone(b, 0, 1, 0L) ? 1 : 0;
                    Checks.due("BROOKS " + a + " and " + b, r.plan(1 << a | 1 << b, 1, 1), unlike);
                }
            }
        }
        Checks.due("never OUT on both: not PARTED", r.plan(8 + 16, 1, 1), 0);
        Checks.due("a BROOK and itself: no pair", r.plan(1, 1, 1), 0);
    }

    private static void plans() {
        Edge.of("Terms 4", "PLAN: the TRIAL that parts most pairs (of several the first).");
        for (int brooks = 1; brooks < 64; brooks++) {
            int sticks = 1 + 5 * brooks % 15;
            StickRace asked = told(BROOKS, STICKS);
            List<Integer> trials = trialsDue(asked, brooks, sticks);
            if (trials.size() > 12) {
                continue;
            }
            List<boolean[]> pairs = pairsDue(told(BROOKS, STICKS), brooks, trials);
            int first = NONE;
            int most = NONE;
            for (int i = 0; i < pairs.size(); i++) {
                if (many(pairs.get(i)) > most) {
                    first = i;
                    most = many(pairs.get(i));
                }
            }
            Checks.due("plan(" + brooks + ", " + sticks + ", 0)", asked.plan(brooks, sticks, 0), first);
            Checks.due("plan(" + brooks + ", " + sticks + ", 1)", asked.plan(brooks, sticks, 1), most);
        }
    }

    /** The first set, in the order of its lowest TRIALS, of so many TRIALS from one on, that parts all; null: none. */
    private static int[] firstSet(List<boolean[]> pairs, boolean[] all, int[] set, int have, int from) {
        if (have == set.length) {
            boolean[] parted = new boolean[36];
            for (int t : set) {
                for (int p = 0; p < 36; p++) {
                    parted[p] |= pairs.get(t)[p];
                }
            }
            return Arrays.equals(parted, all) ? set.clone() : null;
        }
        for (int t = from; t < pairs.size(); t++) {
            set[have] = t;
            int[] found = firstSet(pairs, all, set, have + 1, t + 1);
            if (found != null) {
                return found;
            }
        }
        return null;
    }

    private static int fewestDue(List<boolean[]> pairs) {
        boolean[] all = new boolean[36];
        for (boolean[] each : pairs) {
            for (int p = 0; p < 36; p++) {
                all[p] |= each[p];
            }
        }
        for (int size = 0; size <= pairs.size(); size++) {
            int[] found = firstSet(pairs, all, new int[size], 0, 0);
            if (found != null) {
                int bits = 0;
                for (int t : found) {
                    bits |= 1 << t;
                }
                return bits;
            }
        }
        return NONE;
    }

    private static void fewestOfAll() {
        Edge.of("Terms 4", "FEWEST: the least number of TRIALS by which all pairs that any TRIAL parts are parted "
            + "(of several sets that with the lower TRIAL where two first differ).");
        String[] four = {"1111;1111;1111;4444;4444;1111", "2222;1111;2222;4444;4444;1111", "2222;2222;1111;4444;4444;2222",
            "2222;2222;2222;4444;4444;4444", "4444;1111;2222;1111;2222;1111", "1111;4444;1111;2222;1111;2222"};
        String[] sticks = {"l1", "l2", "h9", "l3,h9"};
        for (int brooks = 1; brooks < 64; brooks++) {
            for (int sets = 0; sets < 2; sets++) {
                String[] texts = sets == 0 ? BROOKS : four;
                int bits = sets == 0 ? 1 + 11 * brooks % 15 : 1 + brooks % 4;
                StickRace r = told(texts, sets == 0 ? STICKS : sticks);
                List<Integer> trials = trialsDue(told(texts, sets == 0 ? STICKS : sticks), brooks, bits);
                if (trials.size() <= 12) {
                    int due = fewestDue(pairsDue(told(texts, sets == 0 ? STICKS : sticks), brooks, trials));
                    Checks.due("fewest(" + brooks + ", " + bits + ") of set " + sets, r.fewest(brooks, bits), due);
                }
            }
        }
    }

    private static void sightsAtMost() {
        Edge.of("Terms 4", "SIGHTS (10 at most): a STICK, a y, TICKS that were seen (1 .. 99).");
        StickRace r = told(new String[] {"4444;4444"}, new String[] {"l1"});
        for (int bad : new int[] {0, 100, -1, MIN, MAX}) {
            Checks.due("TICKS " + bad, r.sight(0, 0, bad), NONE);
        }
        int[] ticks = {1, 99, 4, 4, 4, 4, 4, 4, 4, 4};
        for (int i = 0; i < 10; i++) {
            Checks.due("TICKS " + ticks[i], r.sight(0, i % 6, ticks[i]), i + 1);
        }
        Checks.due("an eleventh", r.sight(0, 0, 4), NONE);
        Checks.due("ten there are", r.count(3), 10);
    }

    private static void brooksThatAgree() {
        Edge.of("Terms 4", "A BROOK AGREES, if of all SIGHTS that is ALONE with seed 0 there.");
        StickRace none = told(BROOKS, STICKS);
        Checks.due("no SIGHTS: all BROOKS", none.agree(), 63);
        Checks.due("no BROOKS", new StickRace().agree(), 0);
        for (int s = 0; s < 4; s++) {
            for (int y = 0; y < 6; y++) {
                StickRace r = told(BROOKS, STICKS);
                int[] alone = new int[6];
                for (int b = 0; b < 6; b++) {
                    alone[b] = r.alone(b, s, y, 0L);
                }
                int seen = alone[0] == NONE ? Math.max(1, alone[4]) : alone[0];
                r.sight(s, y, seen);
                int due = 0;
                for (int b = 0; b < 6; b++) {
                    due |= alone[b] == seen ? 1 << b : 0;
                }
                Checks.due("one SIGHT of STICK " + s + " from " + y + ": " + seen, r.agree(), due);
                r.sight(s, y, seen);
                Checks.due("twice the same", r.agree(), due);
                r.sight(s, y, seen % 99 + 1);
                Checks.due("two that no BROOK can have both", r.agree(), 0);
            }
        }
        StickRace stuck = told(new String[] {"444o;444o", "4444;4444"}, new String[] {"l1"});
        stuck.sight(0, 1, 99);
        Checks.due("99 is not OUT by 60", stuck.agree(), 1);
        stuck.weather(1, 2);
        Checks.due("as HIGH is now", stuck.agree(), 0);
    }

    /** STONED, by telling each BROOK that has one STONE more. */
    private static List<Integer> stonedDue(String brook, String[] sticks, int high, int[][] sights) {
        List<Integer> due = new ArrayList<>();
        int cells = brook.indexOf(';');
        for (int i = 0; i < brook.length(); i++) {
            char sign = brook.charAt(i);
            if (sign == 'o' || sign == ';') {
                continue;
            }
            StickRace r = told(new String[] {brook.substring(0, i) + "o" + brook.substring(i + 1)}, sticks);
            r.weather(1, high);
            boolean agrees = true;
            for (int[] s : sights) {
                agrees &= r.alone(0, s[0], s[1], 0L) == s[2];
            }
            if (agrees) {
                due.add(16 * (i / (cells + 1)) + i % (cells + 1));
            }
        }
        return due;
    }

    private static void cellsStoned() {
        Edge.of("Terms 4", "STONED: CELLS (16 times y and x) of a BROOK, no STONES, each of which alone being a STONE "
            + "would make it AGREE.");
        String[] brooks = {"4444;4444", "oooo;oooo", "4@34;4o44;22@2", "4444444444444444;4444444444444444"};
        int[][][] sights = {{}, {{0, 0, 5}}, {{0, 0, 4}}, {{0, 0, 99}}, {{0, 1, 4}, {0, 0, 4}}, {{1, 0, 4}}, {{1, 0, 99},
            {0, 0, 4}},
            {{0, 0, 17}}, {{0, 0, 16}, {0, 1, 17}}, {{1, 5, 3}}};
        for (int b = 0; b < brooks.length; b++) {
            for (int[][] seen : sights) {
                for (int high = 0; high <= 3; high += 3) {
                    StickRace r = told(new String[] {brooks[b]}, new String[] {"l1", "l2"});
                    r.weather(1, high);
                    for (int[] s : seen) {
                        r.sight(s[0], s[1], s[2]);
                    }
                    List<Integer> due = stonedDue(brooks[b], new String[] {"l1", "l2"}, high, seen);
                    String call = brooks[b] + ", " + Arrays.deepToString(seen) + ", HIGH " + high + ": stoned(0, ";
                    Checks.due(call + "NONE)", r.stoned(0, NONE), due.size());
                    for (int i = 0; i <= due.size(); i++) {
                        Checks.due(call + i + ")", r.stoned(0, i), i < due.size() ? due.get(i) : NONE);
                    }
                    Checks.due("the BROOK has no STONE more", r.brook(0, 2), brooks[b].chars().filter(c -> c == 'o').count());
                }
            }
        }
    }

    /** FAIR by the row (0) and by how much it differs (1), of all rows written out. */
    private static int[] fairDue(int[] worth, int turns) {
        int[] due = {NONE, NONE};
        for (int row = 0; row < 1 << turns; row++) {
            int[] taken = new int[2];
            int[] has = new int[2];
            for (int k = 0; k < turns; k++) {
                int who = row >> (turns - 1 - k) & 1;
                taken[who]++;
                has[who] += worth[k];
            }
            boolean right = taken[0] == (turns + 1) / 2 && taken[1] == turns / 2;
            int differs = Math.abs(has[0] - has[1]);
            if (right && (due[1] == NONE || differs < due[1])) {
                due = new int[] {row, differs};
            }
        }
        return due;
    }

    private static int[] worthDue(String brook, String stick) {
        StickRace r = told(new String[] {brook}, new String[] {stick});
        List<Integer> ticks = new ArrayList<>();
        for (int y = 0; y < 6; y++) {
            int alone = r.alone(0, 0, y, 0L);
            if (alone != NONE) {
                ticks.add(alone);
            }
        }
        ticks.sort(null);
        int[] worth = new int[ticks.size()];
        for (int k = 0; k < worth.length; k++) {
            worth[k] = 60 - ticks.get(k);
        }
        return worth;
    }

    private static void fairs(String brook, String stick) {
        int[] worth = worthDue(brook, stick);
        StickRace r = told(new String[] {brook}, new String[] {stick});
        for (int turns = 2; turns <= 6; turns++) {
            int[] due = worth.length < turns ? new int[] {NONE, NONE} : fairDue(worth, turns);
            for (int what = 0; what < 2; what++) {
                Checks.due(brook + ", " + stick + ": fair(0, 0, " + turns + ", " + what + ")", r.fair(0, 0, turns, what),
                    due[what]);
            }
        }
    }

    private static void turns() {
        Edge.of("Terms 4", "TURNS (2 .. 6) are taken by A (0) and B (1) in a row, as bits, the first the highest; as "
            + "often by both, A once more if TURNS are odd.");
        StickRace r = told(new String[] {"4444;4444;4444;4444;4444;4444"}, new String[] {"l1"});
        // All WORTH 56: of the rows the lowest, and what A has more with odd TURNS.
        int[][] due = {{1, 0}, {1, 56}, {3, 0}, {3, 56}, {7, 0}};
        for (int turns = 2; turns <= 6; turns++) {
            Checks.due("the row of " + turns, r.fair(0, 0, turns, 0), due[turns - 2][0]);
            Checks.due("by how much of " + turns, r.fair(0, 0, turns, 1), due[turns - 2][1]);
        }
        for (int bad : new int[] {1, 7, 0, -1, MIN, MAX}) {
            Checks.due(bad + " TURNS", r.fair(0, 0, bad, 0), NONE);
        }
        // WORTH 58, 44, 44: A takes the best (the highest bit is 0) or the other two.
        StickRace three = told(new String[] {"1111;9999;1111"}, new String[] {"l1"});
        Checks.due("A has the first, then A and B", three.fair(0, 0, 3, 0), 4);
        Checks.due("88 less 58", three.fair(0, 0, 3, 1), 30);
    }

    private static void worth() {
        Edge.of("Terms 4", "WORTH of the k-th TURN: 60 less ALONE (seed 0) of a STICK from its k-th best y on a BROOK (of "
            + "all y at which it CAN lie).");
        fairs("1111;9999;o999;4444;444o;2222", "l1");
        fairs("444o;444o;444o;9999;o44o;444o", "l1");
        fairs("1111;9999;o999;4444;4444;2222", "l2");
        StickRace never = told(new String[] {"4444;444o"}, new String[] {"l1"});
        Checks.due("one that is never OUT: 60 less 99", never.fair(0, 0, 2, 1), 56 + 39);
        StickRace stone = told(new String[] {"4444;o444;2222"}, new String[] {"l1"});
        Checks.due("not from a STONE: two alone", stone.fair(0, 0, 3, 0), NONE);
        Checks.due("not from a STONE: 56 and 52", stone.fair(0, 0, 2, 1), 4);
        stone.weather(1, 2);
        Checks.due("at high water from three", stone.fair(0, 0, 3, 0), 4);
    }

    private static void fairestRows() {
        Edge.of("Terms 4", "FAIR: the row by which what A has differs least from what B has (of several the lowest); and "
            + "by how much.");
        String[] lanes = {"1111", "2222", "3333", "4444", "9999", "9449", "1449", "444o"};
        for (int i = 0; i < 40; i++) {
            StringBuilder brook = new StringBuilder();
            for (int y = 0; y < 6; y++) {
                brook.append(y == 0 ? "" : ";").append(lanes[(i * (y + 3) + y * y + i / 7) % lanes.length]);
            }
            fairs(brook.toString(), i % 5 == 4 ? "l2" : "l1");
        }
    }

    /** All that a RACE tells of itself. */
    private static String tells(StickRace r) {
        StringBuilder all = new StringBuilder();
        all.append(r.count(2)).append(' ').append(r.count(5)).append(' ').append(r.led(NONE)).append(' ').append(r.struck(NONE));
        for (int i = 0; i < 3; i++) {
            for (int what = 0; what <= 6; what++) {
                all.append(' ').append(r.look(i, what));
            }
            for (int t = 0; t <= 12; t += 3) {
                all.append(' ').append(r.was(i, t, 0)).append('/').append(r.was(i, t, 1)).append('/').append(r.leader(t));
            }
            all.append(' ').append(r.passed(i, 2)).append(' ').append(r.led(i)).append(' ').append(r.struck(i));
        }
        return all.toString();
    }

    private static StickRace raceOfThree() {
        StickRace r = Checks.onBrook("4@4o34;44@444;o44444;3333@4", "l1", "h7", "f9");
        Checks.brook(r, "44444;22222;99999");
        r.weather(0, -1);
        r.runner(0, 0);
        r.runner(1, 1);
        r.runner(2, 3);
        r.start(11L);
        return r;
    }

    private static void images() {
        Edge.of("Terms 4", "An IMAGE keeps the RACE as it stands (its BROOK, RUNNERS, draws, TICKS, what part 5 tells of "
            + "it; not WIND, HIGH, HOLD); "
            + "BACK: it stands so again.");
        for (int at = 0; at <= 40; at += 4) {
            StickRace untouched = raceOfThree();
            StickRace r = raceOfThree();
            if (at > 0) {
                untouched.tick(at);
                r.tick(at);
            }
            r.image();
            String kept = tells(untouched);
            r.tick(5);
            r.start(12L);
            r.tick(7);
            if (at % 8 == 0) {
                // Another RACE in which all are elsewhere in each TICK, and the last RUNNER leads.
                r.on(1);
                r.runner(1, 1);
                r.runner(2, 0);
                r.runner(0, 2);
                r.start(1L);
                r.tick(60);
            }
            r.weather(0, 2);
            r.weather(1, 3);
            r.weather(2, 9);
            r.back();
            Checks.due("WIND is not kept", r.count(6), 2);
            Checks.due("HIGH is not kept", r.count(7), 3);
            Checks.due("HOLD is not kept", r.count(8), 9);
            Checks.due("as it stood behind " + at + " (1: yes)", tells(r).equals(kept), true);
            r.weather(0, -1);
            r.weather(1, 0);
            r.weather(2, 5);
            untouched.tick(6);
            r.tick(6);
            Checks.due("as it goes on from " + at + " (1: yes)", tells(r).equals(tells(untouched)), true);
            Checks.due("the odds of its RUNNERS on its BROOK", r.odds(0, 9, 1), untouched.odds(0, 9, 1));
            untouched.start(3L);
            r.start(3L);
            untouched.tick(60);
            r.tick(60);
            Checks.due("as it is started anew (1: yes)", tells(r).equals(tells(untouched)), true);
        }
    }

    // ---- Promises 25 to 33 ----

    private static final int[] NO_BROOK_BITS = {0, 4, 5, 64, -1, MIN, MAX};
    private static final int[] NO_STICK_BITS = {0, 4, 7, 1024, -1, MIN, MAX};

    private static void trials() {
        Edge.of("Promise 25", "TRIALS: how many (i NONE); the i-th: 16 times the STICK and y.");
        StickRace r = told(new String[] {"4444;4444;4444", "4444;4444;o444"}, new String[] {"l1", "l2"});
        int[] due = {0, 1, 16};
        Checks.due("how many", r.trials(3, 3, NONE), 3);
        for (int i = 0; i < 3; i++) {
            Checks.due("the " + i + "-th", r.trials(3, 3, i), due[i]);
        }
        Checks.due("on the first BROOK alone", r.trials(1, 3, 4), 17);
        Edge.of("Promise 25", "NONE: not told, no such ones (bits, not 0).");
        for (int bad : new int[] {-2, 3, 12, MIN, MAX}) {
            Checks.due("i " + bad, r.trials(3, 3, bad), NONE);
        }
        for (int bad : NO_BROOK_BITS) {
            Checks.due("BROOKS " + bad, r.trials(bad, 1, NONE), NONE);
        }
        for (int bad : NO_STICK_BITS) {
            Checks.due("STICKS " + bad, r.trials(1, bad, NONE), NONE);
        }
        String[] brooks = {"4444;4444", "4444;4444", "4444;4444", "4444;4444", "4444;4444", "4444;4444"};
        StickRace full = told(brooks, new String[] {"l1", "l1", "l2", "l2", "l2", "l2", "l2", "l2", "l2", "l2"});
        Checks.due("all BROOKS, all STICKS", full.trials(63, 1023, NONE), 12);
        Checks.due("all BROOKS, the last STICK", full.trials(63, 512, 0), 16 * 9);
        Checks.due("the last BROOK, the last STICK", full.trials(32, 512, NONE), 1);
        Checks.due("a seventh BROOK", full.trials(64, 1, NONE), NONE);
        Checks.due("an eleventh STICK", full.trials(1, 1024, NONE), NONE);
        Checks.due("no BROOKS", new StickRace().trials(1, 1, NONE), NONE);
        Checks.due("no TRIALS: 0", told(new String[] {"4444;4444"}, new String[] {"l3"}).trials(1, 1, NONE), 0);
        Checks.due("no TRIALS: no first", told(new String[] {"4444;4444"}, new String[] {"l3"}).trials(1, 1, 0), NONE);
    }

    private static void plan() {
        Edge.of("Promise 26", "PLAN: 0 the TRIAL's number, 1 how many pairs it parts.");
        StickRace r = told(new String[] {"4444;4444", "4444;2222"}, new String[] {"l1", "l3"});
        Checks.due("LANE 1", r.plan(3, 1, 0), 1);
        Checks.due("one pair", r.plan(3, 1, 1), 1);
        Checks.due("one BROOK: the first TRIAL", r.plan(2, 1, 0), 0);
        Checks.due("one BROOK: no pair", r.plan(2, 1, 1), 0);
        String[] six = {"1111;1111", "2222;1111", "3333;1111", "4444;1111", "6666;1111", "8888;1111"};
        Checks.due("six BROOKS that all differ", told(six, new String[] {"l1"}).plan(63, 1, 1), 15);
        Edge.of("Promise 26", "NONE: no TRIALS, not told, no such ones.");
        Checks.due("no TRIALS", r.plan(3, 2, 0), NONE);
        Checks.due("no TRIALS: no pairs", r.plan(3, 2, 1), NONE);
        for (int bad : new int[] {-1, 2, MIN, MAX}) {
            Checks.due("what " + bad, r.plan(3, 1, bad), NONE);
        }
        for (int bad : NO_BROOK_BITS) {
            Checks.due("BROOKS " + bad, r.plan(bad, 1, 0), NONE);
        }
        for (int bad : NO_STICK_BITS) {
            Checks.due("STICKS " + bad, r.plan(3, bad, 0), NONE);
        }
        StickRace many = told(new String[] {"4444;4444;4444;4444;4444;4444"}, new String[] {"l1", "l1", "l1"});
        Checks.due("12 are told", many.plan(1, 3, 1), 0);
        Checks.due("18 are not", many.plan(1, 7, 1), NONE);
    }

    private static void fewest() {
        Edge.of("Promise 27", "FEWEST, as bits of TRIALS.");
        StickRace r = told(new String[] {"4444;4444", "4444;2222"}, new String[] {"l1", "l3"});
        Checks.due("TRIAL 1", r.fewest(3, 1), 2);
        Checks.due("no pair: none", r.fewest(1, 1), 0);
        Checks.due("no TRIALS: none", r.fewest(3, 2), 0);
        // From LANE 5 l1 is OUT in TICK 4 on both; h9 has PACE 2, on the last CELL 2 or 6: TICK 8 or 7.
        String[] lanes = {"4444;4444;4444;4444;4444;4444", "4444;4444;4444;4444;4444;4448"};
        Checks.due("the last of twelve", told(lanes, new String[] {"l1", "h9"}).fewest(3, 3), 1 << 11);
        Checks.due("the last of six", told(lanes, new String[] {"l1", "h9"}).fewest(3, 2), 1 << 5);
        Checks.due("none of l1", told(lanes, new String[] {"l1", "h9"}).fewest(3, 1), 0);
        Edge.of("Promise 27", "NONE: not told, no such ones.");
        for (int bad : NO_BROOK_BITS) {
            Checks.due("BROOKS " + bad, r.fewest(bad, 1), NONE);
        }
        for (int bad : NO_STICK_BITS) {
            Checks.due("STICKS " + bad, r.fewest(3, bad), NONE);
        }
        StickRace many = told(new String[] {"4444;4444;4444;4444;4444;4444"}, new String[] {"l1", "l1", "l1"});
        Checks.due("12 are told", many.fewest(1, 3), 0);
        Checks.due("18 are not", many.fewest(1, 7), NONE);
    }

    private static void sight() {
        Edge.of("Promise 28", "A SIGHT: how many there are.");
        StickRace r = told(new String[0], new String[] {"l1", "l5"});
        Checks.due("no BROOK is asked for", r.sight(0, 0, 1), 1);
        Checks.due("nor whether it CAN lie", r.sight(1, 5, 99), 2);
        Checks.due("two", r.count(3), 2);
        Edge.of("Promise 28", "NONE: no such ones (y 0 .. 5), out of bounds, there are ten.");
        for (int bad : new int[] {-1, 2, 10, MIN, MAX}) {
            Checks.due("STICK " + bad, r.sight(bad, 0, 4), NONE);
        }
        for (int bad : new int[] {-1, 6, 16, MIN, MAX}) {
            Checks.due("y " + bad, r.sight(0, bad, 4), NONE);
        }
        for (int bad : new int[] {-1, 0, 100, MIN, MAX}) {
            Checks.due("TICKS " + bad, r.sight(0, 0, bad), NONE);
        }
        Checks.due("two still", r.count(3), 2);
        for (int i = 3; i <= 10; i++) {
            Checks.due("SIGHT " + i, r.sight(0, i % 6, i), i);
        }
        Checks.due("there are ten", r.sight(0, 0, 4), NONE);
        Checks.due("ten still", r.count(3), 10);
        Checks.due("no STICKS", new StickRace().sight(0, 0, 4), NONE);
    }

    private static void agree() {
        Edge.of("Promise 29", "BROOKS that AGREE, as bits.");
        Checks.due("no BROOKS", new StickRace().agree(), 0);
        StickRace r = new StickRace();
        Checks.stick(r, "l1");
        for (int b = 0; b < 6; b++) {
            Checks.brook(r, b % 2 == 0 ? "4444;2222" : "2222;4444");
            Checks.due("no SIGHTS: all " + (b + 1), r.agree(), (1 << b + 1) - 1);
        }
        r.sight(0, 1, 4);
        Checks.due("1, 3 and 5", r.agree(), 2 + 8 + 32);
        r.sight(0, 0, 4);
        Checks.due("none has both", r.agree(), 0);
    }

    private static void stoned() {
        Edge.of("Promise 30", "STONED: how many (i NONE), the i-th.");
        StickRace r = told(new String[] {"4444;4444", "oooo;ooo4"}, new String[] {"l1"});
        Checks.due("no SIGHTS: all eight", r.stoned(0, NONE), 8);
        for (int i = 0; i < 8; i++) {
            Checks.due("the " + i + "-th", r.stoned(0, i), 16 * (i / 4) + i % 4);
        }
        Checks.due("the one that is no STONE", r.stoned(1, NONE), 1);
        Checks.due("which it is", r.stoned(1, 0), 19);
        String six = "4444444444444444;".repeat(5) + "4444444444444444";
        StickRace most = told(new String[] {six}, new String[0]);
        Checks.due("the most CELLS", most.stoned(0, NONE), 96);
        Checks.due("the last", most.stoned(0, 95), 16 * 5 + 15);
        Checks.due("no more", most.stoned(0, 96), NONE);
        Edge.of("Promise 30", "NONE: no such ones.");
        for (int bad : new int[] {-2, 8, 96, MIN, MAX}) {
            Checks.due("i " + bad, r.stoned(0, bad), NONE);
        }
        for (int bad : new int[] {-1, 2, 6, MIN, MAX}) {
            Checks.due("BROOK " + bad, r.stoned(bad, NONE), NONE);
            Checks.due("BROOK " + bad, r.stoned(bad, 0), NONE);
        }
        Checks.due("no BROOKS", new StickRace().stoned(0, NONE), NONE);
        r.sight(0, 0, 98);
        Checks.due("none: 0", r.stoned(0, NONE), 0);
        Checks.due("none: no first", r.stoned(0, 0), NONE);
    }

    private static void fair() {
        Edge.of("Promise 31", "FAIR: the row (0), by how much it differs (1).");
        // WORTH 58, 56, 52, 44.
        StickRace r = told(new String[] {"1111;4444;9999;2222", "o444;4444"}, new String[] {"l1", "l3"});
        int[][] due = {{1, 2}, {4, 50}, {6, 6}};
        for (int turns = 2; turns <= 4; turns++) {
            for (int what = 0; what < 2; what++) {
                Checks.due("fair(0, 0, " + turns + ", " + what + ")", r.fair(0, 0, turns, what), due[turns - 2][what]);
            }
        }
        Edge.of("Promise 31", "NONE: there are not so many y, no such ones.");
        for (int what = 0; what < 2; what++) {
            Checks.due("five of four", r.fair(0, 0, 5, what), NONE);
            Checks.due("six of four", r.fair(0, 0, 6, what), NONE);
            Checks.due("three of two that l3 has", r.fair(0, 1, 3, what), NONE);
            Checks.due("two of one that is no STONE", r.fair(1, 0, 2, what), NONE);
        }
        Checks.due("two of two that l3 has", r.fair(0, 1, 2, 0), 1);
        for (int bad : new int[] {-1, 2, 6, MIN, MAX}) {
            Checks.due("BROOK " + bad, r.fair(bad, 0, 2, 0), NONE);
        }
        for (int bad : new int[] {-1, 2, 10, MIN, MAX}) {
            Checks.due("STICK " + bad, r.fair(0, bad, 2, 0), NONE);
        }
        for (int bad : new int[] {-1, 0, 1, 7, MIN, MAX}) {
            Checks.due("TURNS " + bad, r.fair(0, 0, bad, 0), NONE);
        }
        for (int bad : new int[] {-1, 2, MIN, MAX}) {
            Checks.due("what " + bad, r.fair(0, 0, 2, bad), NONE);
        }
    }

    private static void image() {
        Edge.of("Promise 32", "An IMAGE (instead of the one ahead): TICKS of the RACE.");
        StickRace r = Checks.onBrook("444o;444o", "l1");
        r.runner(0, 1);
        r.start(0L);
        Checks.due("at the START", r.image(), 0);
        r.tick(1);
        Checks.due("behind TICK 1", r.image(), 1);
        r.tick(59);
        Checks.due("the one behind TICK 1, not the one ahead", r.back(), 1);
        r.tick(60);
        Checks.due("at the end", r.image(), 60);
        r.start(0L);
        Checks.due("back at the end", r.back(), 60);
        Edge.of("Promise 32", "NONE: none was started.");
        Checks.due("of a new object", new StickRace().image(), NONE);
        r.on(0);
        Checks.due("no RUNNERS", r.image(), NONE);
        r.runner(0, 0);
        Checks.due("none was started", r.image(), NONE);
        Checks.due("the IMAGE is there as it was", r.back(), 60);
        Checks.due("with its RUNNER", r.look(0, 1), 1);
    }

    private static void back() {
        Edge.of("Promise 33", "BACK: TICKS of the RACE.");
        StickRace r = Checks.onBrook("4444;4444", "l1");
        r.runner(0, 0);
        r.start(0L);
        r.image();
        Checks.due("at once", r.back(), 0);
        r.tick(2);
        Checks.due("again", r.back(), 0);
        Checks.due("TICKS of the RACE", r.count(5), 0);
        Checks.due("it goes on", r.tick(60), 4);
        Checks.due("as often as one likes", r.back(), 0);
        Edge.of("Promise 33", "NONE: no IMAGE.");
        Checks.due("of a new object", new StickRace().back(), NONE);
        StickRace none = Checks.onBrook("4444;4444", "l1");
        none.image();
        none.runner(0, 0);
        none.image();
        none.start(0L);
        none.tick(2);
        Checks.due("images that were refused are none", none.back(), NONE);
        Checks.due("the RACE is as it was", none.count(5), 2);
    }
}
