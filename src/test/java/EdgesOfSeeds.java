/** The document, sentence by sentence: part 3 of the terms, promises 18 to 24. */
final class EdgesOfSeeds {
    private static final int NONE = Checks.NONE;
    private static final int HIDDEN = Checks.HIDDEN;
    private static final int MIN = Integer.MIN_VALUE;
    private static final int MAX = Integer.MAX_VALUE;
    private static final int[] NO_SEEDS = {0, 41, -1, MIN, MAX};
    private static final String EDDIES = "4@4434;44@444;4444o4;33@@34";

    private EdgesOfSeeds() {
    }

    static void all() {
        overSeeds();
        aloneOnABrook();
        tail();
        bestOfSticks();
        choiceOfTwo();
        sameAtHighWater();
        carvedWithinARule();
        odds();
        alone();
        luck();
        best();
        choice();
        same();
        carved();
    }

    /** RUNNERS on a BROOK with EDDIES: who is first differs by the seed. */
    private static StickRace river() {
        StickRace r = Checks.onBrook(EDDIES, "l1", "f9", "h7", "l2,h2");
        r.weather(2, 4);
        r.runner(0, 0);
        r.runner(2, 3);
        r.runner(1, 1);
        return r;
    }

    /** A BROOK where RUNNER 1 was told upon a STONE at high water, which is low again. */
    private static StickRace low() {
        StickRace r = Checks.onBrook("4444;o444;4444", "l1");
        r.weather(1, 2);
        r.runner(0, 0);
        r.runner(0, 1);
        r.weather(1, 1);
        return r;
    }

    // ---- Terms 3 ----

    private static void overSeeds() {
        Edge.of("Terms 3", "Over n seeds (1 .. 40) 0 .. n less 1, RUNNERS as told, each time a whole RACE: "
            + "WINS of a RUNNER: how often its PLACE is 0; SUM of its PLACES.");
        int[] wins = new int[3];
        int[] sums = new int[3];
        for (int n = 1; n <= 40; n++) {
            StickRace one = river();
            one.start(n - 1);
            one.tick(60);
            for (int i = 0; i < 3; i++) {
                wins[i] += one.look(i, 4) == 0 ? 1 : 0;
                sums[i] += one.look(i, 4);
            }
            // Asked in the midst of a RACE with another seed: RUNNERS as told count, and they go on as they were.
            StickRace r = river();
            r.start(-7L);
            r.tick(4);
            for (int i = 0; i < 3; i++) {
                Checks.due("WINS of " + i + " over " + n, r.odds(i, n, 0), wins[i]);
                Checks.due("SUM of " + i + " over " + n, r.odds(i, n, 1), sums[i]);
            }
            Checks.due("the RACE is where it was", r.count(5), 4);
        }
        Checks.due("the seeds differ (1: yes)", wins[0] > 0 && wins[0] < 40, true);
        for (int n : NO_SEEDS) {
            Checks.due("n " + n, river().odds(0, n, 0), NONE);
        }
        // Never OUT: how many RUNNERS there are, each time.
        StickRace never = Checks.onBrook("444o;444o", "l2");
        never.runner(0, 0);
        Checks.due("WINS of one that is never OUT", never.odds(0, 40, 0), 0);
        Checks.due("SUM of one that is never OUT", never.odds(0, 40, 1), 40);
    }

    private static void aloneOnABrook() {
        Edge.of("Terms 3", "ALONE: TICKS of a STICK from a y on a BROOK, alone: the TICK in which it is OUT, 99 if it is "
            + "not by 60.");
        StickRace r = new StickRace();
        Checks.brook(r, "111111111111111;111111111111111");
        Checks.brook(r, "1111111111111111;1111111111111112");
        Checks.brook(r, "1111111111111111;1111111111111115");
        Checks.brook(r, "9999;9999");
        Checks.brook(r, "444o;444o");
        Checks.stick(r, "l1");
        Checks.due("OUT in TICK 60", r.alone(0, 0, 0, 0L), 60);
        Checks.due("not by 60", r.alone(1, 0, 0, 0L), 99);
        Checks.due("on the last CELL at 60", r.alone(1, 0, 1, 0L), 99);
        Checks.due("PACE 5 on the last CELL: TICK 61", r.alone(2, 0, 1, 0L), 99);
        Checks.due("OUT in TICK 2", r.alone(3, 0, 1, 0L), 2);
        Checks.due("never OUT", r.alone(4, 0, 1, 0L), 99);
        r.weather(1, 3);
        Checks.due("PULL 12, x 3 and OUT", r.alone(3, 0, 0, 0L), 2);
        r.weather(1, 0);
        r.on(0);
        r.runner(0, 0);
        r.runner(0, 1);
        Checks.due("whatever RUNNERS there are", r.alone(0, 0, 0, 0L), 60);
        // As its RACE goes that is run for it.
        for (long seed : new long[] {0, 1, 39, -1, Long.MIN_VALUE, Long.MAX_VALUE}) {
            for (int y = 0; y < 3; y += 2) {
                StickRace run = Checks.onBrook("4@@434;44@@44;4@@4@4", "l1");
                run.runner(0, y);
                run.start(seed);
                run.tick(60);
                int due = run.look(0, 3) == NONE ? 99 : run.look(0, 3);
                Checks.due("seed " + seed + " from " + y, run.alone(0, 0, y, seed), due);
            }
        }
    }

    private static void tail() {
        Edge.of("Terms 3", "LUCK: of n rounds a bettor won k: TAIL: a row of parts, at first 1,000,000 of 0 won; "
            + "for each round the parts of j won become those of j times (seeds less WINS) by seeds, cut, "
            + "and those of j less 1 times WINS by seeds, cut, together; the parts of k or more won together.");
        for (int n = 1; n <= 40; n += 3) {
            long wins = river().odds(0, n, 0);
            long[] parts = {1000000};
            for (int rounds = 1; rounds <= 20; rounds++) {
                long[] next = new long[rounds + 1];
                for (int j = 0; j <= rounds; j++) {
                    long stay = j < rounds ? parts[j] * (n - wins) / n : 0;
                    long come = j > 0 ? parts[j - 1] * wins / n : 0;
                    next[j] = stay + come;
                }
                parts = next;
                StickRace r = river();
                long tail = 0;
                for (int won = rounds; won >= 0; won--) {
                    tail += parts[won];
                    Checks.due("over " + n + " of " + rounds + " rounds " + won, r.luck(0, n, rounds, won), tail);
                }
            }
        }
    }

    /** The sum of ALONE over n seeds, each asked of an object of its own. */
    private static int sumAlone(String brook, String stick, int hold, int y, int n) {
        StickRace r = Checks.onBrook(brook, stick);
        r.weather(2, hold);
        int sum = 0;
        for (int seed = 0; seed < n; seed++) {
            int ticks = r.alone(0, 0, y, seed);
            if (ticks == NONE) {
                return NONE;
            }
            sum += ticks;
        }
        return sum;
    }

    private static void bestOfSticks() {
        Edge.of("Terms 3", "BEST of STICKS (bits) on a BROOK: the STICK and y with the least sum of ALONE over n seeds "
            + "(of several the lowest STICK, then y).");
        String brook = "4@4434;44@444;o44444;44@434";
        String[] sticks = {"h7", "l5", "l1", "l2", "f9"};
        for (int n : new int[] {1, 2, 7, 40}) {
            for (int bits = 1; bits < 32; bits++) {
                int[] due = {NONE, NONE, NONE};
                for (int s = 0; s < 5; s++) {
                    for (int y = 0; y < 4 && (bits >> s & 1) != 0; y++) {
                        int sum = sumAlone(brook, sticks[s], 2, y, n);
                        if (sum != NONE && (due[2] == NONE || sum < due[2])) {
                            due = new int[] {s, y, sum};
                        }
                    }
                }
                StickRace r = Checks.onBrook(brook, sticks);
                r.weather(2, 2);
                for (int what = 0; what < 3; what++) {
                    Checks.due("best(0, " + bits + ", " + n + ", " + what + ")", r.best(0, bits, n, what), due[what]);
                }
            }
        }
        StickRace alike = Checks.onBrook("4444;4444", "h9", "l1", "l1", "h4");
        Checks.due("of several the lowest STICK", alike.best(0, 15, 40, 0), 1);
        Checks.due("of several the lowest y", alike.best(0, 15, 40, 1), 0);
        Checks.due("of STICKS 2 and 3 the lowest", alike.best(0, 12, 1, 0), 2);
    }

    /** WINS of the first less those of the second; HIDDEN if both can't be so. */
    private static int lead(String brook, String one, String other, int hold, int[] starts, int n) {
        StickRace r = Checks.onBrook(brook, one, other);
        r.weather(2, hold);
        if (r.runner(0, starts[0]) != 0 || r.runner(1, starts[1]) != 1) {
            return HIDDEN;
        }
        return r.odds(0, n, 0) - r.odds(1, n, 0);
    }

    private static int[] choiceDue(String brook, int lanes, String one, String other, int n) {
        int[] due = {HIDDEN, HIDDEN, HIDDEN};
        for (int y = 0; y < lanes; y++) {
            int[] reply = {HIDDEN, HIDDEN, HIDDEN};
            for (int z = 0; z < lanes; z++) {
                int lead = lead(brook, one, other, 3, new int[] {y, z}, n);
                // Most for the second is least for the first; of several the lowest z.
                if (lead != HIDDEN && (reply[2] == HIDDEN || lead < reply[2])) {
                    reply = new int[] {y, z, lead};
                }
            }
            if (reply[2] != HIDDEN && (due[2] == HIDDEN || reply[2] > due[2])) {
                due = reply;
            }
        }
        return due;
    }

    private static void choiceOfTwo() {
        Edge.of("Terms 3", "CHOICE of two players with a STICK each: the first (RUNNER 0) takes a y, then the second (1) "
            + "one where both can be: "
            + "that by which its WINS less the first's are most (of several the lowest); "
            + "the first takes the y (to which the second has one) by which its WINS less the second's are most then (likewise); "
            + "the GAME is worth that difference.");
        String[] brooks = {EDDIES, "4@44;2222", "4444;4444;4444", "o444;4@43;o444;3333", "444@4;34444;4@4@4;o4444;444o4;44444"};
        int[] lanes = {4, 2, 3, 4, 6};
        String[] sticks = {"l1", "h7", "l2", "l3,h2"};
        for (int b = 0; b < brooks.length; b++) {
            for (String one : sticks) {
                for (String other : sticks) {
                    int n = 1 + (b * 7 + one.length() + 3 * other.length()) % 9;
                    int[] due = choiceDue(brooks[b], lanes[b], one, other, n);
                    StickRace r = Checks.onBrook(brooks[b], one, other);
                    r.weather(2, 3);
                    for (int what = 0; what < 3; what++) {
                        Checks.due(one + " and " + other + " on " + brooks[b] + " over " + n + ": " + what,
                            r.choice(0, 0, 1, n, what), due[what]);
                    }
                }
            }
        }
    }

    private static String placesAt(StickRace r, int high, int seed) {
        r.weather(1, high);
        r.start(seed);
        r.tick(60);
        StringBuilder places = new StringBuilder();
        for (int i = 0; i < r.count(2); i++) {
            places.append(r.look(i, 4)).append(' ');
        }
        return places.toString();
    }

    private static void sameInWind(int wind) {
        String[][] placesBy = new String[4][40];
        for (int high = 0; high <= 3; high++) {
            StickRace r = river();
            r.weather(0, wind);
            for (int seed = 0; seed < 40; seed++) {
                placesBy[high][seed] = placesAt(r, high, seed);
            }
        }
        for (int a = 0; a <= 3; a++) {
            for (int b = 0; b <= 3; b++) {
                int alike = 0;
                StickRace r = river();
                r.weather(0, wind);
                r.weather(1, 1);
                for (int n = 1; n <= 40; n++) {
                    alike += placesBy[a][n - 1].equals(placesBy[b][n - 1]) ? 1 : 0;
                    Checks.due("WIND " + wind + ": same(" + a + ", " + b + ", " + n + ")", r.same(a, b, n), alike);
                }
                Checks.due("HIGH is as it was", r.count(7), 1);
            }
        }
    }

    private static void sameAtHighWater() {
        Edge.of("Terms 3", "SAME: in how many of n seeds all PLACES are alike with HIGH a and with HIGH b "
            + "(a RUNNER that CAN not lie at its start with one of these: none).");
        for (int wind = -1; wind <= 1; wind++) {
            sameInWind(wind);
        }
        for (int a = 0; a <= 3; a++) {
            for (int b = 0; b <= 3; b++) {
                Checks.due("RUNNER 1 upon a STONE: same(" + a + ", " + b + ", 40)", low().same(a, b, 40) == NONE, a < 2 || b < 2);
            }
        }
        // RUNNER 1 is first in any water; RUNNER 0 strikes a STONE for ever with HIGH 0 and 1: PLACES 2 and 0, or 1 and 0.
        StickRace barred = Checks.onBrook("4444;4o44", "l1");
        barred.runner(0, 1);
        barred.runner(0, 0);
        Checks.due("the PLACE of RUNNER 0 alone is another: same(0, 2, 40)", barred.same(0, 2, 40), 0);
        Checks.due("the PLACE of RUNNER 0 alone is another: same(1, 3, 40)", barred.same(1, 3, 40), 0);
        Checks.due("same(0, 1, 40)", barred.same(0, 1, 40), 40);
        Checks.due("same(2, 3, 40)", barred.same(2, 3, 40), 40);
        // RUNNERS 1 and 3 have no PULL with HIGH 0 and 1; 0 is OUT ahead of 2 in TICK 8 of 9, or behind it in TICK 6 of 5.
        StickRace four = Checks.onBrook("2222;1111;1199;1111", "l1", "h9");
        for (int y = 0; y < 4; y++) {
            four.runner(y % 2, y);
        }
        Checks.due("the first two change PLACES: same(0, 1, 40)", four.same(0, 1, 40), 0);
        Checks.due("PLACES with HIGH 0 (1: as due)", placesAt(four, 0, 0).equals("0 4 1 4 "), true);
        Checks.due("PLACES with HIGH 1 (1: as due)", placesAt(four, 1, 0).equals("1 4 0 4 "), true);
    }

    /** ALONE with seed 0 of every STICK that can be told, by LENGTH, HEAVY, FEATHER. */
    private static int[][][] aloneOfAll(String brook, int wind, int y) {
        int[][][] ticks = new int[6][10][10];
        for (int l = 1; l <= 5; l++) {
            for (int h = 0; h <= 9; h++) {
                StickRace r = Checks.onBrook(brook);
                r.weather(0, wind);
                for (int f = 0; f <= 9; f++) {
                    Checks.stick(r, "l" + l + ",h" + h + ",f" + f);
                    ticks[l][h][f] = r.alone(0, f, y, 0L);
                }
            }
        }
        return ticks;
    }

    private static void carvedWithinARule() {
        Edge.of("Terms 3", "CARVED: of all STICKS with 2 times LENGTH, HEAVY and FEATHER together no more than a RULE (0 .. 30) "
            + "the one with the least ALONE from a y with seed 0 (of several the least LENGTH, then HEAVY, then FEATHER).");
        String[] brooks = {"1111;o999", "9818;1111;4444;2222;9999", "8818;o111;4@44"};
        int[][] cases = {{0, 1, 0}, {0, -3, 0}, {1, 0, 0}, {1, 2, 1}, {1, -1, 4}, {2, 1, 0}, {2, 0, 1}, {2, 3, 2}};
        for (int[] c : cases) {
            int[][][] ticks = aloneOfAll(brooks[c[0]], c[1], c[2]);
            StickRace r = Checks.onBrook(brooks[c[0]]);
            r.weather(0, c[1]);
            for (int rule = 0; rule <= 30; rule++) {
                int[] due = {NONE, NONE, NONE, NONE};
                for (int code = 100; code < 600; code++) {
                    int[] shape = {code / 100, code / 10 % 10, code % 10};
                    int alone = ticks[shape[0]][shape[1]][shape[2]];
                    boolean within = 2 * shape[0] + shape[1] + shape[2] <= rule;
                    if (within && alone != NONE && (due[3] == NONE || alone < due[3])) {
                        due = new int[] {shape[0], shape[1], shape[2], alone};
                    }
                }
                for (int what = 0; what < 4; what++) {
                    Checks.due(brooks[c[0]] + ", WIND " + c[1] + ": carved(0, " + c[2] + ", " + rule + ", " + what + ")",
                        r.carved(0, c[2], rule, what), due[what]);
                }
            }
        }
    }

    // ---- Promises 18 to 24 ----

    private static void odds() {
        Edge.of("Promise 18", "WINS (what 0), SUM (1) of a RUNNER over n seeds.");
        StickRace r = Checks.onBrook("4444;2222;1111", "l1");
        for (int y = 2; y >= 0; y--) {
            r.runner(0, y);
        }
        for (int n : new int[] {1, 40}) {
            for (int i = 0; i < 3; i++) {
                Checks.due("WINS of " + i, r.odds(i, n, 0), i == 2 ? n : 0);
                Checks.due("SUM of " + i, r.odds(i, n, 1), (2 - i) * n);
            }
        }
        Edge.of("Promise 18", "NONE: no such ones, one CAN not lie at its start now.");
        for (int bad : new int[] {-1, 3, 6, MIN, MAX}) {
            Checks.due("RUNNER " + bad, r.odds(bad, 1, 0), NONE);
        }
        for (int bad : new int[] {-1, 2, MIN, MAX}) {
            Checks.due("what " + bad, r.odds(0, 1, bad), NONE);
        }
        for (int n : NO_SEEDS) {
            Checks.due("n " + n, r.odds(0, n, 1), NONE);
        }
        Checks.due("no RUNNERS", new StickRace().odds(0, 1, 0), NONE);
        StickRace low = low();
        for (int i = 0; i < 2; i++) {
            Checks.due("RUNNER 1 CAN not lie at its start now", low.odds(i, 1, 0), NONE);
        }
        low.weather(1, 2);
        Checks.due("now it CAN", low.odds(0, 1, 0), 1);
    }

    private static void alone() {
        Edge.of("Promise 19", "ALONE.");
        StickRace r = Checks.onBrook("4444;o444;2222", "l1", "l3", "l5");
        Checks.due("PACE 4", r.alone(0, 0, 0, Long.MIN_VALUE), 4);
        Checks.due("PACE 2", r.alone(0, 0, 2, Long.MAX_VALUE), 8);
        Edge.of("Promise 19", "NONE: it CAN not lie there, no such ones.");
        Checks.due("on a STONE", r.alone(0, 0, 1, 0L), NONE);
        Checks.due("over a STONE", r.alone(0, 1, 0, 0L), NONE);
        Checks.due("too long for y 1", r.alone(0, 1, 1, 0L), NONE);
        Checks.due("too long for any", r.alone(0, 2, 0, 0L), NONE);
        for (int bad : new int[] {-1, 1, 6, MIN, MAX}) {
            Checks.due("BROOK " + bad, r.alone(bad, 0, 0, 0L), NONE);
        }
        for (int bad : new int[] {-1, 3, 10, MIN, MAX}) {
            Checks.due("STICK " + bad, r.alone(0, bad, 0, 0L), NONE);
        }
        for (int bad : new int[] {-1, 3, 6, 32, MIN, MAX}) {
            Checks.due("y " + bad, r.alone(0, 0, bad, 0L), NONE);
        }
        r.weather(1, 2);
        Checks.due("at high water over the STONE", r.alone(0, 1, 0, 0L), 4);
        Checks.due("too long still", r.alone(0, 1, 1, 0L), NONE);
        Checks.due("of a new object", new StickRace().alone(0, 0, 0, 0L), NONE);
    }

    private static void luck() {
        Edge.of("Promise 20", "TAIL.");
        StickRace r = Checks.onBrook("4444;2222", "l1");
        r.runner(0, 0);
        r.runner(0, 1);
        for (int rounds : new int[] {1, 20}) {
            Checks.due("always won", r.luck(0, 40, rounds, rounds), 1000000);
            Checks.due("always won, 0 or more", r.luck(0, 40, rounds, 0), 1000000);
            Checks.due("never won, 0 or more", r.luck(1, 40, rounds, 0), 1000000);
            Checks.due("never won, 1 or more", r.luck(1, 40, rounds, 1), 0);
        }
        Edge.of("Promise 20", "NONE: no such ones (rounds 1 .. 20, won 0 .. rounds), one CAN not lie at its start now.");
        for (int bad : new int[] {0, 21, -1, MIN, MAX}) {
            Checks.due("rounds " + bad, r.luck(0, 1, bad, 0), NONE);
        }
        for (int rounds = 1; rounds <= 20; rounds++) {
            Checks.due("won " + (rounds + 1) + " of " + rounds, r.luck(0, 1, rounds, rounds + 1), NONE);
            Checks.due("won -1 of " + rounds, r.luck(0, 1, rounds, -1), NONE);
        }
        for (int bad : new int[] {MIN, MAX}) {
            Checks.due("won " + bad, r.luck(0, 1, 20, bad), NONE);
        }
        for (int bad : new int[] {-1, 2, 6, MIN, MAX}) {
            Checks.due("RUNNER " + bad, r.luck(bad, 1, 1, 1), NONE);
        }
        for (int n : NO_SEEDS) {
            Checks.due("n " + n, r.luck(0, n, 1, 1), NONE);
        }
        Checks.due("no RUNNERS", new StickRace().luck(0, 1, 1, 1), NONE);
        Checks.due("RUNNER 1 CAN not lie at its start now", low().luck(0, 1, 1, 1), NONE);
    }

    private static void best() {
        Edge.of("Promise 21", "BEST: 0 the STICK, 1 the y, 2 the sum.");
        StickRace r = Checks.onBrook("2222;4444", "h9", "l1", "l3");
        int[] due = {1, 1, 160};
        for (int what = 0; what < 3; what++) {
            Checks.due("best(0, 7, 40, " + what + ")", r.best(0, 7, 40, what), due[what]);
        }
        Edge.of("Promise 21", "NONE: none CAN lie, no such ones (bits, not 0).");
        for (int what = 0; what < 3; what++) {
            Checks.due("too long", r.best(0, 4, 1, what), NONE);
        }
        for (int bad : new int[] {0, 8, 15, -1, MIN, MAX}) {
            Checks.due("STICKS " + bad, r.best(0, bad, 1, 0), NONE);
        }
        for (int bad : new int[] {-1, 1, 6, MIN, MAX}) {
            Checks.due("BROOK " + bad, r.best(bad, 1, 1, 0), NONE);
        }
        for (int bad : new int[] {-1, 3, MIN, MAX}) {
            Checks.due("what " + bad, r.best(0, 1, 1, bad), NONE);
        }
        for (int n : NO_SEEDS) {
            Checks.due("n " + n, r.best(0, 1, n, 0), NONE);
        }
        for (int s = 3; s < 10; s++) {
            Checks.due("no STICK " + s + " yet", r.best(0, 1 << s, 1, 0), NONE);
            Checks.stick(r, "l2");
            Checks.due("STICK " + s, r.best(0, 1 << s, 1, 0), s);
        }
        Checks.due("all ten", r.best(0, 1023, 1, 0), 1);
        Checks.due("an eleventh", r.best(0, 1024, 1, 0), NONE);
        Checks.due("an eleventh with the others", r.best(0, 2047, 1, 0), NONE);
        StickRace stones = Checks.onBrook("o444;o444", "l1");
        Checks.due("STONES at every start", stones.best(0, 1, 1, 2), NONE);
        Checks.due("no STICKS", new StickRace().best(0, 1, 1, 0), NONE);
    }

    private static void choice() {
        Edge.of("Promise 22", "CHOICE: the first's y (0), the second's (1), what the GAME is worth (2).");
        StickRace r = Checks.onBrook("2222;4444;3333", "l1", "l2", "l3", "h9");
        // LANE 1 wins against all; the second has LANE 0, of 0 and 2 (both lose) the lowest.
        int[] due = {1, 0, 40};
        for (int what = 0; what < 3; what++) {
            Checks.due("choice(0, 0, 0, 40, " + what + ")", r.choice(0, 0, 0, 40, what), due[what]);
        }
        // l2 at 0 leaves LANE 2 alone, at 1 LANE 0 alone; from both it wins: the lowest.
        int[] one = {0, 2, 1};
        for (int what = 0; what < 3; what++) {
            Checks.due("choice(0, 1, 0, 1, " + what + ")", r.choice(0, 1, 0, 1, what), one[what]);
        }
        Edge.of("Promise 22", "HIDDEN: there is none, no such ones.");
        for (int what = 0; what < 3; what++) {
            Checks.due("both can be nowhere", r.choice(0, 2, 0, 1, what), HIDDEN);
            Checks.due("both can be nowhere", r.choice(0, 1, 1, 1, what), HIDDEN);
        }
        for (int bad : new int[] {-1, 4, 10, MIN, MAX}) {
            Checks.due("the first's STICK " + bad, r.choice(0, bad, 0, 1, 0), HIDDEN);
            Checks.due("the second's STICK " + bad, r.choice(0, 0, bad, 1, 0), HIDDEN);
        }
        for (int bad : new int[] {-1, 1, 6, MIN, MAX}) {
            Checks.due("BROOK " + bad, r.choice(bad, 0, 0, 1, 0), HIDDEN);
        }
        for (int bad : new int[] {-1, 3, MIN, MAX}) {
            Checks.due("what " + bad, r.choice(0, 0, 0, 1, bad), HIDDEN);
        }
        for (int n : NO_SEEDS) {
            Checks.due("n " + n, r.choice(0, 0, 0, n, 0), HIDDEN);
        }
    }

    private static void same() {
        Edge.of("Promise 23", "SAME.");
        // PACE 1 in either LANE: 40 of 40; with a STONE ahead of RUNNER 0 it wins at high water alone.
        StickRace r = Checks.onBrook("4o44;1111", "l1");
        r.runner(0, 0);
        r.runner(0, 1);
        Checks.due("same(0, 1, 40)", r.same(0, 1, 40), 40);
        Checks.due("same(0, 2, 40)", r.same(0, 2, 40), 0);
        Checks.due("same(3, 3, 1)", r.same(3, 3, 1), 1);
        Edge.of("Promise 23", "NONE: no RUNNERS, one CAN not lie at its start, no such ones.");
        Checks.due("no RUNNERS", Checks.onBrook("4444;4444", "l1").same(0, 0, 1), NONE);
        Checks.due("of a new object", new StickRace().same(0, 0, 1), NONE);
        Checks.due("with HIGH 1 RUNNER 1 CAN not lie at its start", low().same(2, 1, 1), NONE);
        Checks.due("with HIGH 0 either", low().same(0, 3, 1), NONE);
        for (int bad : new int[] {-1, 4, MIN, MAX}) {
            Checks.due("a " + bad, r.same(bad, 0, 1), NONE);
            Checks.due("b " + bad, r.same(0, bad, 1), NONE);
        }
        for (int n : NO_SEEDS) {
            Checks.due("n " + n, r.same(0, 0, n), NONE);
        }
    }

    private static void carved() {
        Edge.of("Promise 24", "CARVED: 0 LENGTH, 1 HEAVY, 2 FEATHER, 3 ALONE.");
        StickRace r = Checks.onBrook("1111;9999;o999", "l1,h9");
        int[] two = {2, 0, 0, 2};
        int[] one = {1, 0, 0, 16};
        for (int what = 0; what < 4; what++) {
            Checks.due("by 4: " + what, r.carved(0, 0, 4, what), two[what]);
            Checks.due("by 30: " + what, r.carved(0, 0, 30, what), two[what]);
            Checks.due("by 2: " + what, r.carved(0, 0, 2, what), one[what]);
        }
        Edge.of("Promise 24", "NONE: none, no such ones.");
        for (int what = 0; what < 4; what++) {
            Checks.due("none within 1: " + what, r.carved(0, 0, 1, what), NONE);
            Checks.due("none within 0: " + what, r.carved(0, 0, 0, what), NONE);
            Checks.due("none from a STONE: " + what, r.carved(0, 2, 30, what), NONE);
        }
        for (int bad : new int[] {-1, 31, MIN, MAX}) {
            Checks.due("rule " + bad, r.carved(0, 0, bad, 0), NONE);
        }
        for (int bad : new int[] {-1, 3, 6, MIN, MAX}) {
            Checks.due("y " + bad, r.carved(0, bad, 30, 0), NONE);
        }
        for (int bad : new int[] {-1, 1, 6, MIN, MAX}) {
            Checks.due("BROOK " + bad, r.carved(bad, 0, 30, 0), NONE);
        }
        for (int bad : new int[] {-1, 4, MIN, MAX}) {
            Checks.due("what " + bad, r.carved(0, 0, 30, bad), NONE);
        }
        Checks.due("the STICK told is as it was", r.stick(0, 1), 9);
        Checks.due("none more is told", r.count(1), 1);
        r.weather(1, 2);
        Checks.due("from the STONE at high water", r.carved(0, 2, 2, 3), 6);
    }
}
