import java.util.ArrayList;
import java.util.Arrays;
import java.util.List;

/** The document, sentence by sentence: part 5 of the terms, promises 34 to 44. */
final class EdgesOfMemory {
    private static final int NONE = Checks.NONE;
    private static final int HIDDEN = Checks.HIDDEN;
    private static final int MIN = Integer.MIN_VALUE;
    private static final int MAX = Integer.MAX_VALUE;
    private static final int[] NO_SEEDS = {0, 41, -1, MIN, MAX};
    private static final String EDDIES = "4@4434;44@444;4444o4;33@@34";

    private EdgesOfMemory() {
    }

    static void all() {
        whereTheyWere();
        firstTickPassed();
        leaders();
        ticksLed();
        strikesByX();
        turnedRound();
        byTurns();
        duels();
        ladders();
        spans();
        closeRaces();
        was();
        passed();
        leader();
        led();
        struck();
        rounds();
        duel();
        ladder();
        reach();
        close();
        count();
    }

    // ---- Terms 5, of a RACE ----

    /** RACES of several RUNNERS: with strikes, EDDIES and WIND, one with nobody OUT, one with six. */
    private static StickRace race(int which) {
        String[] brooks = {"4o4434;4@@444;4o44o4;33@434;2222o2", "444o;444o;o444", "9999;8888;7777;6666;5555;4444",
            "4444444444444444;3333333333333333"};
        StickRace r = Checks.onBrook(brooks[which], "l1", "f9", "l2");
        r.weather(0, which == 0 ? -1 : 0);
        if (which == 0) {
            r.runner(0, 0);
            r.runner(1, 2);
            r.runner(2, 3);
        } else if (which == 1) {
            r.runner(2, 0);
        } else {
            for (int y = which == 2 ? 5 : 1; y >= 0; y--) {
                r.runner(0, y);
            }
        }
        r.start(which + 2L);
        return r;
    }

    /** x (0) and y (1) of each RUNNER, behind each TICK from 0 on, as they were looked at then. */
    private static List<int[][]> watched(StickRace r) {
        List<int[][]> all = new ArrayList<>();
        boolean goesOn = true;
        while (goesOn) {
            int[][] now = new int[2][r.count(2)];
            for (int i = 0; i < now[0].length; i++) {
                now[0][i] = r.look(i, 0);
                now[1][i] = r.look(i, 1);
            }
            all.add(now);
            goesOn = r.tick(1) == 1;
        }
        return all;
    }

    private static void whereTheyWere() {
        Edge.of("Terms 5", "Of the RACE as it was run since its START: WAS: x and y of a RUNNER behind a TICK (0: at the "
            + "START).");
        for (int which = 0; which < 4; which++) {
            List<int[][]> due = watched(race(which));
            int ticks = due.size() - 1;
            for (int i = 0; i < due.get(0)[0].length; i++) {
                StickRace r = race(which);
                r.start(1000L);
                r.tick(60);
                r.start(which + 2L);
                r.tick(60);
                for (int t = 0; t <= ticks; t++) {
                    Checks.due("race " + which + ": was(" + i + ", " + t + ", 0)", r.was(i, t, 0), due.get(t)[0][i]);
                    Checks.due("race " + which + ": was(" + i + ", " + t + ", 1)", r.was(i, t, 1), due.get(t)[1][i]);
                }
                Checks.due("no TICK more", r.was(i, ticks + 1, 0), NONE);
            }
        }
        Checks.due("sixty TICKS", watched(race(1)).size(), 61);
    }

    private static void firstTickPassed() {
        Edge.of("Terms 5", "PASSED: the first TICK behind which its x was a told one or more.");
        for (int which = 0; which < 4; which++) {
            List<int[][]> seen = watched(race(which));
            StickRace r = race(which);
            r.tick(60);
            for (int i = 0; i < seen.get(0)[0].length; i++) {
                for (int x = 1; x <= 16; x++) {
                    int due = NONE;
                    for (int t = seen.size() - 1; t >= 1; t--) {
                        due = seen.get(t)[0][i] >= x ? t : due;
                    }
                    Checks.due("race " + which + ": passed(" + i + ", " + x + ")", r.passed(i, x), due);
                }
            }
        }
    }

    /** The LEADERS behind each TICK from 0 on. */
    private static int[] leadersDue(int which) {
        List<int[][]> seen = watched(race(which));
        StickRace r = race(which);
        int[] due = new int[seen.size()];
        for (int t = 0; t < due.length; t++) {
            int[] x = seen.get(t)[0];
            for (int i = x.length - 1; i >= 0; i--) {
                due[t] = x[i] >= x[due[t]] ? i : due[t];
            }
            for (int i = 0; i < x.length; i++) {
                due[t] = r.look(i, 4) == 0 ? i : due[t];
            }
            r.tick(1);
        }
        return due;
    }

    private static void leaders() {
        Edge.of("Terms 5", "LEADER behind a TICK (0: at the START): of those OUT the one of PLACE 0, else the RUNNER with "
            + "the greatest x (of several the lowest).");
        for (int which = 0; which < 4; which++) {
            int[] due = leadersDue(which);
            StickRace r = race(which);
            r.tick(60);
            for (int t = 0; t < due.length; t++) {
                Checks.due("race " + which + ": leader(" + t + ")", r.leader(t), due[t]);
            }
            Checks.due("no TICK more", r.leader(due.length), NONE);
        }
        // RUNNER 1 is OUT first, RUNNER 0 later: their x is alike then, but PLACE 0 leads.
        StickRace r = Checks.onBrook("2222;4444", "l1");
        r.runner(0, 0);
        r.runner(0, 1);
        r.start(0L);
        Checks.due("at the START the lowest", r.leader(0), 0);
        r.tick(60);
        Checks.due("both OUT", r.leader(8), 1);
    }

    private static void ticksLed() {
        Edge.of("Terms 5", "LED: behind how many TICKS (from 1 on) a RUNNER was it; "
            + "CHANGES: how often the LEADER behind a TICK (from 2 on) is another one than that behind the TICK ahead.");
        for (int which = 0; which < 4; which++) {
            int[] leaders = leadersDue(which);
            StickRace r = race(which);
            int runners = r.count(2);
            int[] due = new int[runners];
            int changes = 0;
            for (int t = 0; t < leaders.length; t++) {
                if (t >= 1) {
                    due[leaders[t]]++;
                }
                changes += t >= 2 && leaders[t] != leaders[t - 1] ? 1 : 0;
                for (int i = 0; i < runners; i++) {
                    Checks.due("race " + which + " behind " + t + ": led(" + i + ")", r.led(i), due[i]);
                }
                Checks.due("race " + which + " behind " + t + ": led(NONE)", r.led(NONE), changes);
                r.tick(1);
            }
        }
        // RUNNER 0 leads at the START, RUNNER 1 from TICK 1 on: no CHANGE is counted for that.
        StickRace first = Checks.onBrook("1111;4444", "l1");
        first.runner(0, 0);
        first.runner(0, 1);
        first.start(0L);
        first.tick(1);
        Checks.due("another one than at the START", first.leader(1), 1);
        Checks.due("no CHANGE", first.led(NONE), 0);
        Checks.due("LED behind TICK 1", first.led(1), 1);
        Checks.due("not at the START", first.led(0), 0);
        // RUNNER 0 strikes at x 14 from TICK 15 on; RUNNER 1 is at x 14 in TICK 56, at x 15 in TICK 60.
        StickRace last = Checks.onBrook("1111111111111111;444444444444444o", "l1");
        last.runner(0, 1);
        last.runner(0, 0);
        last.start(0L);
        last.tick(59);
        Checks.due("behind TICK 59: no CHANGE", last.led(NONE), 0);
        Checks.due("behind TICK 59: LED by RUNNER 0", last.led(0), 59);
        last.tick(1);
        Checks.due("a CHANGE behind TICK 60", last.led(NONE), 1);
        Checks.due("LED by RUNNER 1 behind TICK 60", last.led(1), 1);
        Checks.due("LED by RUNNER 0 as before", last.led(0), 59);
    }

    private static void strikesByX() {
        Edge.of("Terms 5", "STRUCK at an x: how many strikes RUNNERS made there; NARROW: the x with the most (of several "
            + "the lowest).");
        for (int which = 0; which < 2; which++) {
            StickRace r = race(which);
            int runners = r.count(2);
            int[] due = new int[17];
            int[] strikes = new int[runners];
            while (r.tick(1) == 1) {
                for (int i = 0; i < runners; i++) {
                    // A strike ends the TICK: it was made where the RUNNER is behind that TICK.
                    int more = r.look(i, 6) - strikes[i];
                    if (more > 0) {
                        due[r.look(i, 0)] += more;
                        strikes[i] += more;
                    }
                }
            }
            Checks.due("some strikes (1: yes)", Arrays.stream(strikes).sum() > 1, true);
            int narrow = NONE;
            for (int at = 15; at >= 0; at--) {
                Checks.due("race " + which + ": struck(" + at + ")", r.struck(at), due[at]);
                narrow = due[at] > 0 && (narrow == NONE || due[at] >= due[narrow]) ? at : narrow;
            }
            Checks.due("race " + which + ": NARROW", r.struck(NONE), narrow);
        }
        // One strike at x 2, one at x 0: the lowest; one more at x 2: that one.
        StickRace tie = Checks.onBrook("4o444;44444;444o4;44444", "l1");
        tie.runner(0, 0);
        tie.runner(0, 2);
        tie.start(0L);
        tie.tick(3);
        Checks.due("at x 0", tie.struck(0), 1);
        Checks.due("at x 2", tie.struck(2), 1);
        Checks.due("of several the lowest", tie.struck(NONE), 0);
        StickRace most = Checks.onBrook("4o444;44444;444o4;444o4", "l1");
        most.runner(0, 0);
        most.runner(0, 2);
        most.start(0L);
        most.tick(4);
        Checks.due("one at x 0", most.struck(0), 1);
        Checks.due("two at x 2", most.struck(2), 2);
        Checks.due("the most", most.struck(NONE), 2);
    }

    // ---- Terms 5, over many seeds ----

    private static final String[][] TURNING = {{EDDIES, "l1", "h7", "f9"}, {"4444;44@4;4444;3333;4444;2@22", "l1", "l2", "l1"},
        {"4444;4@44;3333;44o4;4444;4444", "l3", "l1", "h8"}, {"4@44;2222", "l1", "l1"}, {"4@44;2222", "l2"},
        {"4@44;3333;2222;4444;@@@@;4o44", "l1", "h9", "f9", "l1", "h7", "f5"}};
    private static final int[][] TURNING_FROM = {{0, 3, 1}, {0, 3, 5}, {1, 0, 4}, {0, 1}, {0}, {3, 1, 5, 0, 2, 4}};

    /** RUNNERS told so that RUNNER i begins where i and k was told; null: one of them is refused. */
    private static StickRace turned(int which, int k) {
        int[] from = TURNING_FROM[which];
        StickRace r = Checks.onBrook(TURNING[which][0], Arrays.copyOfRange(TURNING[which], 1, from.length + 1));
        r.weather(2, 3);
        for (int i = 0; i < from.length; i++) {
            if (r.runner(i, from[(i + k) % from.length]) != i) {
                return null;
            }
        }
        return r;
    }

    private static void turnedRound() {
        Edge.of("Terms 5", "TURNED k: RUNNER i with its STICK begins at the y of RUNNER i and k (going round, by how many "
            + "RUNNERS there are), for all k from 0 on; "
            + "only those k count in which all CAN lie so, no two on one CELL.");
        int[] counts = {3, 2, 1, 2, 1, 6};
        for (int which = 0; which < TURNING.length; which++) {
            int due = 0;
            for (int k = 0; k < TURNING_FROM[which].length; k++) {
                due += turned(which, k) != null ? 1 : 0;
            }
            Checks.due("as told by hand", due, counts[which]);
            Checks.due("how many k of race " + which, turned(which, 0).rounds(0, 1, 2), due);
        }
        // Told at high water: with HIGH 0 one CAN not lie so in any k but those that leave the STONE's LANE out.
        StickRace high = Checks.onBrook("o444;4444;4444", "l1", "l2");
        high.weather(1, 2);
        high.runner(1, 0);
        high.runner(0, 2);
        Checks.due("with HIGH 2: l2 fits at 0 alone", high.rounds(0, 1, 2), 1);
        high.weather(1, 1);
        Checks.due("with HIGH 1: none", high.rounds(0, 1, 2), 0);
        Checks.due("no k: no WINS", high.rounds(0, 40, 0), 0);
        Checks.due("no k: no SUM", high.rounds(1, 40, 1), 0);
    }

    private static void byTurns() {
        Edge.of("Terms 5", "BY TURNS: over these k and n seeds each, WINS of a RUNNER, SUM of its PLACES; how many k count.");
        for (int which = 0; which < TURNING.length; which++) {
            int runners = TURNING_FROM[which].length;
            for (int n : new int[] {1, 2, 9, 40}) {
                int[] wins = new int[runners];
                int[] sums = new int[runners];
                int count = 0;
                for (int k = 0; k < runners; k++) {
                    StickRace r = turned(which, k);
                    for (int i = 0; i < runners && r != null; i++) {
                        wins[i] += r.odds(i, n, 0);
                        sums[i] += r.odds(i, n, 1);
                    }
                    count += r != null ? 1 : 0;
                }
                StickRace r = turned(which, 0);
                for (int i = 0; i < runners; i++) {
                    Checks.due("race " + which + ": rounds(" + i + ", " + n + ", 0)", r.rounds(i, n, 0), wins[i]);
                    Checks.due("race " + which + ": rounds(" + i + ", " + n + ", 1)", r.rounds(i, n, 1), sums[i]);
                    Checks.due("race " + which + ": rounds(" + i + ", " + n + ", 2)", r.rounds(i, n, 2), count);
                }
            }
        }
    }

    private static int duelDue(String brook, String one, String other, int n) {
        int due = HIDDEN;
        for (int y = 0; y < 6; y++) {
            for (int z = 0; z < 6; z++) {
                StickRace r = Checks.onBrook(brook, one, other);
                r.weather(2, 3);
                if (r.runner(0, y) == 0 && r.runner(1, z) == 1) {
                    int lead = r.odds(0, n, 0) - r.odds(1, n, 0);
                    due = due == HIDDEN ? lead : due + lead;
                }
            }
        }
        return due;
    }

    private static void duels() {
        Edge.of("Terms 5", "DUEL of two STICKS on a BROOK: over all y of the first, z of the second where both can be, "
            + "and n seeds: "
            + "WINS of the first (RUNNER 0) less those of the second.");
        String[] brooks = {EDDIES, "4@44;2222", "o444;4444;o444", "o444;o444;4444", "444@4;34444;4@4@4;o4444;444o4;44444"};
        String[] sticks = {"l1", "h9", "l2", "l4", "f9"};
        for (String brook : brooks) {
            for (String one : sticks) {
                for (String other : sticks) {
                    int n = 1 + (brook.length() + one.charAt(1) + 5 * other.charAt(1)) % 6;
                    StickRace r = Checks.onBrook(brook, one, other);
                    r.weather(2, 3);
                    Checks.due(one + " and " + other + " on " + brook + " over " + n, r.duel(0, 0, 1, n),
                        duelDue(brook, one, other, n));
                }
            }
        }
        // All is alike: RUNNER 0 goes OUT first, from each of thirty pairs, over 40 seeds.
        StickRace most = Checks.onBrook("4444;4444;4444;4444;4444;4444", "l1", "h9");
        Checks.due("the most", most.duel(0, 0, 0, 40), 1200);
        Checks.due("the least", most.duel(0, 1, 0, 40), -1200);
    }

    private static int bestSum(String brook, String stick, int n) {
        int best = NONE;
        for (int y = 0; y < 6; y++) {
            StickRace r = Checks.onBrook(brook, stick);
            r.weather(2, 2);
            int sum = 0;
            for (int seed = 0; seed < n && sum != NONE; seed++) {
                int ticks = r.alone(0, 0, y, seed);
                sum = ticks == NONE ? NONE : sum + ticks;
            }
            best = sum != NONE && (best == NONE || sum < best) ? sum : best;
        }
        return best;
    }

    private static void ladders() {
        Edge.of("Terms 5", "LADDER of STICKS (bits) on a BROOK: by the least sum of ALONE over n seeds from any y (the "
            + "STICK's BEST), the least first, "
            + "of several the lowest STICK; those that CAN lie nowhere are left out.");
        String brook = "4@4434;44@444;o44444;4@@434";
        String[] sticks = {"h7", "l5", "l1", "l2", "f9", "h9", "l3", "h8,l1", "h0", "l4"};
        for (int n : new int[] {1, 3, 40}) {
            int[] sums = new int[10];
            for (int s = 0; s < 10; s++) {
                sums[s] = bestSum(brook, sticks[s], n);
            }
            for (int bits = 1; bits < 1024; bits += 31) {
                List<Integer> due = new ArrayList<>();
                for (int s = 0; s < 10; s++) {
                    if ((bits >> s & 1) != 0 && sums[s] != NONE) {
                        due.add(s);
                    }
                }
                // A sort that leaves those of one sum as they are: by their numbers.
                due.sort((a, b) -> sums[a] - sums[b]);
                StickRace r = Checks.onBrook(brook, sticks);
                r.weather(2, 2);
                Checks.due("ladder(0, " + bits + ", " + n + ", NONE)", r.ladder(0, bits, n, NONE), due.size());
                for (int i = 0; i <= due.size(); i++) {
                    Checks.due("ladder(0, " + bits + ", " + n + ", " + i + ")", r.ladder(0, bits, n, i),
                        i < due.size() ? due.get(i) : NONE);
                }
            }
        }
        // From its y: 16, 2 and 8 TICKS for STICK 2; the long ones need 6 and 4. Neither its first nor its last y counts.
        StickRace middle = Checks.onBrook("1111;9999;2222", "h8,l3", "l3", "l1");
        for (int n : new int[] {1, 40}) {
            for (int i = 0; i <= 3; i++) {
                Checks.due("by the y between: ladder(0, 7, " + n + ", " + i + ")", middle.ladder(0, 7, n, i),
                    i < 3 ? 2 - i : NONE);
            }
        }
    }

    private static void spans() {
        Edge.of("Terms 5", "SPAN of a STICK and a y: the least and the most of ALONE over n seeds; "
            + "MIDDLE: the ((n less 1) by 2, cut)-th of these in rising order, from 0.");
        for (int y = 0; y < 4; y++) {
            for (int n = 1; n <= 40; n++) {
                StickRace r = Checks.onBrook(EDDIES, "l1");
                int[] all = new int[n];
                for (int seed = 0; seed < n; seed++) {
                    all[seed] = r.alone(0, 0, y, seed);
                }
                Arrays.sort(all);
                Checks.due("the least from " + y + " over " + n, r.reach(0, 0, y, n, 0), all[0]);
                Checks.due("the most from " + y + " over " + n, r.reach(0, 0, y, n, 1), all[n - 1]);
                Checks.due("MIDDLE from " + y + " over " + n, r.reach(0, 0, y, n, 2), all[(n - 1) / 2]);
            }
        }
        StickRace held = Checks.onBrook("@444;4444", "l1");
        held.weather(2, 10);
        for (int what = 0; what < 3; what++) {
            Checks.due("held for ever: 99", held.reach(0, 0, 0, 40, what), 99);
        }
    }

    private static void closeRaces() {
        Edge.of("Terms 5", "CLOSE: how many of n seeds end with the first two RUNNERS OUT in one TICK.");
        for (int which = 0; which < TURNING.length; which++) {
            int runners = TURNING_FROM[which].length;
            if (runners < 2) {
                continue;
            }
            int due = 0;
            for (int n = 1; n <= 40; n++) {
                StickRace one = turned(which, 0);
                one.start(n - 1);
                one.tick(60);
                int[] ticks = {NONE, NONE};
                for (int i = 0; i < runners; i++) {
                    if (one.look(i, 4) < 2 && one.look(i, 3) != NONE) {
                        ticks[one.look(i, 4)] = one.look(i, 3);
                    }
                }
                due += ticks[0] != NONE && ticks[0] == ticks[1] ? 1 : 0;
                Checks.due("race " + which + ": close(" + n + ")", turned(which, 0).close(n), due);
            }
        }
        // OUT in TICK 4: RUNNERS 1 and 2, who are the first two; RUNNER 0 comes later.
        StickRace late = Checks.onBrook("2222;4444;4444", "l1");
        for (int y = 0; y < 3; y++) {
            late.runner(0, y);
        }
        Checks.due("the first two are not RUNNERS 0 and 1", late.close(40), 40);
        // The second and the third in one TICK: the first two are not.
        StickRace two = Checks.onBrook("4444;2222;2222", "l1");
        for (int y = 0; y < 3; y++) {
            two.runner(0, y);
        }
        Checks.due("the last two in one TICK", two.close(40), 0);
        StickRace one = Checks.onBrook("4444;444o;444o", "l1", "l2");
        one.runner(0, 0);
        one.runner(1, 1);
        Checks.due("one alone is OUT", one.close(40), 0);
        StickRace none = Checks.onBrook("444o;444o;444o;444o", "l2");
        none.runner(0, 0);
        none.runner(0, 2);
        Checks.due("none is OUT", none.close(40), 0);
    }

    // ---- Promises 34 to 44 ----

    /** RUNNER 0 is OUT in TICK 4, RUNNER 1 in TICK 8 of a RACE on four CELLS. */
    private static StickRace ended() {
        StickRace r = Checks.onBrook("4444;2222", "l1");
        r.runner(0, 0);
        r.runner(0, 1);
        r.start(0L);
        r.tick(60);
        return r;
    }

    /** RUNNERS, but no RACE since they were told. */
    private static StickRace notStarted() {
        StickRace r = ended();
        r.on(0);
        r.runner(0, 0);
        r.runner(0, 1);
        return r;
    }

    /** A whole RACE of RUNNER 0 alone, behind one that had a RUNNER 1 too. */
    private static StickRace oneIsGone() {
        StickRace r = ended();
        r.on(0);
        r.runner(0, 1);
        r.start(0L);
        r.tick(60);
        return r;
    }

    private static void was() {
        Edge.of("Promise 34", "WAS: x (what 0), y (1).");
        StickRace r = ended();
        for (int t = 0; t <= 8; t++) {
            Checks.due("x of RUNNER 0 behind " + t, r.was(0, t, 0), Math.min(t, 4));
            Checks.due("x of RUNNER 1 behind " + t, r.was(1, t, 0), t / 2);
            Checks.due("y of RUNNER 0 behind " + t, r.was(0, t, 1), 0);
            Checks.due("y of RUNNER 1 behind " + t, r.was(1, t, 1), 1);
        }
        Edge.of("Promise 34", "NONE: no such RUNNER, TICK, what, none was started.");
        for (int bad : new int[] {-1, 2, 5, 6, MIN, MAX}) {
            Checks.due("RUNNER " + bad, r.was(bad, 0, 0), NONE);
        }
        for (int bad : new int[] {-1, 9, 60, 61, MIN, MAX}) {
            Checks.due("TICK " + bad, r.was(0, bad, 0), NONE);
        }
        for (int bad : new int[] {-1, 2, MIN, MAX}) {
            Checks.due("what " + bad, r.was(0, 0, bad), NONE);
        }
        Checks.due("a RUNNER that is gone: x", oneIsGone().was(1, 3, 0), NONE);
        Checks.due("a RUNNER that is gone: y", oneIsGone().was(1, 3, 1), NONE);
        Checks.due("none was started", notStarted().was(0, 0, 0), NONE);
        Checks.due("of a new object", new StickRace().was(0, 0, 0), NONE);
        r.start(0L);
        Checks.due("started anew: TICK 0 alone", r.was(0, 0, 0), 0);
        Checks.due("started anew: no TICK 1", r.was(0, 1, 0), NONE);
    }

    private static void passed() {
        Edge.of("Promise 35", "PASSED x (1 .. 16).");
        StickRace r = ended();
        for (int x = 1; x <= 16; x++) {
            Checks.due("RUNNER 0, x " + x, r.passed(0, x), x <= 4 ? x : NONE);
            Checks.due("RUNNER 1, x " + x, r.passed(1, x), x <= 4 ? 2 * x : NONE);
        }
        StickRace most = Checks.onBrook("4444444444444444;4444444444444444", "l1");
        most.runner(0, 0);
        most.start(0L);
        most.tick(60);
        Checks.due("x 16 is the END of sixteen CELLS", most.passed(0, 16), 16);
        Edge.of("Promise 35", "NONE: not yet, no such ones, none was started.");
        for (int bad : new int[] {0, 17, -1, MIN, MAX}) {
            Checks.due("x " + bad, most.passed(0, bad), NONE);
        }
        for (int bad : new int[] {-1, 2, 6, MIN, MAX}) {
            Checks.due("RUNNER " + bad, r.passed(bad, 1), NONE);
        }
        Checks.due("a RUNNER that is gone", oneIsGone().passed(1, 1), NONE);
        Checks.due("none was started", notStarted().passed(0, 1), NONE);
        Checks.due("of a new object", new StickRace().passed(0, 1), NONE);
        r.start(0L);
        Checks.due("not yet", r.passed(0, 1), NONE);
        r.tick(1);
        Checks.due("RUNNER 0 behind TICK 1", r.passed(0, 1), 1);
        Checks.due("RUNNER 1 not yet", r.passed(1, 1), NONE);
    }

    private static void leader() {
        Edge.of("Promise 36", "LEADER behind a TICK.");
        StickRace r = Checks.onBrook("2222;4444", "l1");
        r.runner(0, 0);
        r.runner(0, 1);
        r.start(0L);
        r.tick(60);
        for (int t = 0; t <= 8; t++) {
            Checks.due("leader(" + t + ")", r.leader(t), t == 0 ? 0 : 1);
        }
        Edge.of("Promise 36", "NONE: no such TICK, none was started.");
        for (int bad : new int[] {-1, 9, 60, 61, MIN, MAX}) {
            Checks.due("TICK " + bad, r.leader(bad), NONE);
        }
        Checks.due("none was started", notStarted().leader(0), NONE);
        Checks.due("of a new object", new StickRace().leader(0), NONE);
        StickRace sixty = race(1);
        sixty.tick(60);
        Checks.due("TICK 60", sixty.leader(60), 0);
        Checks.due("TICK 61", sixty.leader(61), NONE);
    }

    private static void led() {
        Edge.of("Promise 37", "LED; CHANGES (runner NONE).");
        // x of RUNNER 0: 0 1 3 OUT; of RUNNER 1: 1 1 1 1 2 .., OUT in TICK 17.
        StickRace r = Checks.onBrook("39999;41111", "l1");
        r.runner(0, 0);
        r.runner(0, 1);
        r.start(0L);
        r.tick(60);
        Checks.due("RUNNER 1 behind TICK 1", r.led(1), 1);
        Checks.due("RUNNER 0 behind all others", r.led(0), 16);
        Checks.due("one CHANGE", r.led(NONE), 1);
        Edge.of("Promise 37", "NONE: no such RUNNER, none was started.");
        for (int bad : new int[] {-2, 2, 5, 6, MIN, MAX}) {
            Checks.due("RUNNER " + bad, r.led(bad), NONE);
        }
        Checks.due("a RUNNER that is gone", oneIsGone().led(1), NONE);
        Checks.due("none was started", notStarted().led(0), NONE);
        Checks.due("none was started: CHANGES", notStarted().led(NONE), NONE);
        Checks.due("of a new object", new StickRace().led(NONE), NONE);
        r.start(0L);
        Checks.due("at the START", r.led(0), 0);
        Checks.due("at the START: CHANGES", r.led(NONE), 0);
    }

    private static void struck() {
        Edge.of("Promise 38", "STRUCK at an x (0 .. 15); NARROW (x NONE; NONE: none struck).");
        StickRace r = Checks.onBrook("444444444444444o;444444444444444o", "l2");
        r.runner(0, 0);
        r.start(0L);
        Checks.due("none struck", r.struck(NONE), NONE);
        r.tick(60);
        for (int x = 0; x <= 15; x++) {
            Checks.due("struck(" + x + ")", r.struck(x), x == 14 ? 46 : 0);
        }
        Checks.due("NARROW", r.struck(NONE), 14);
        Checks.due("none struck in a whole RACE", ended().struck(NONE), NONE);
        Checks.due("x 15 of four CELLS", ended().struck(15), 0);
        Edge.of("Promise 38", "NONE: no such x, none was started.");
        for (int bad : new int[] {-2, 16, MIN, MAX}) {
            Checks.due("x " + bad, r.struck(bad), NONE);
        }
        Checks.due("none was started", notStarted().struck(0), NONE);
        Checks.due("none was started: NARROW", notStarted().struck(NONE), NONE);
        Checks.due("of a new object", new StickRace().struck(0), NONE);
        r.start(0L);
        Checks.due("started anew", r.struck(14), 0);
        Checks.due("started anew: NARROW", r.struck(NONE), NONE);
    }

    private static void rounds() {
        Edge.of("Promise 39", "BY TURNS: WINS (0), SUM (1), how many k (2).");
        StickRace r = notStarted();
        for (int n : new int[] {1, 40}) {
            for (int i = 0; i < 2; i++) {
                Checks.due("WINS of " + i, r.rounds(i, n, 0), n);
                Checks.due("SUM of " + i, r.rounds(i, n, 1), n);
                Checks.due("how many k", r.rounds(i, n, 2), 2);
            }
        }
        Edge.of("Promise 39", "NONE: no such ones.");
        for (int bad : new int[] {-1, 2, 6, MIN, MAX}) {
            Checks.due("RUNNER " + bad, r.rounds(bad, 1, 0), NONE);
        }
        for (int bad : new int[] {-1, 3, MIN, MAX}) {
            Checks.due("what " + bad, r.rounds(0, 1, bad), NONE);
        }
        for (int n : NO_SEEDS) {
            Checks.due("n " + n, r.rounds(0, n, 2), NONE);
        }
        Checks.due("no RUNNERS", new StickRace().rounds(0, 1, 2), NONE);
    }

    private static void duel() {
        Edge.of("Promise 40", "DUEL.");
        StickRace r = Checks.onBrook("4444;2222", "l1", "h9", "l2");
        Checks.due("PACES 4 and 2 against 0 and 2", r.duel(0, 0, 1, 1), 2);
        Checks.due("won from both over 40", r.duel(0, 0, 1, 40), 80);
        Checks.due("alike: one each", r.duel(0, 0, 0, 40), 0);
        Edge.of("Promise 40", "HIDDEN: both can be nowhere, no such ones.");
        Checks.due("the second nowhere", r.duel(0, 0, 2, 1), HIDDEN);
        Checks.due("the first leaves no LANE", r.duel(0, 2, 0, 1), HIDDEN);
        for (int bad : new int[] {-1, 3, 10, MIN, MAX}) {
            Checks.due("the first's STICK " + bad, r.duel(0, bad, 0, 1), HIDDEN);
            Checks.due("the second's STICK " + bad, r.duel(0, 0, bad, 1), HIDDEN);
        }
        for (int bad : new int[] {-1, 1, 6, MIN, MAX}) {
            Checks.due("BROOK " + bad, r.duel(bad, 0, 1, 1), HIDDEN);
        }
        for (int n : NO_SEEDS) {
            Checks.due("n " + n, r.duel(0, 0, 1, n), HIDDEN);
        }
        StickRace stone = Checks.onBrook("o444;4444", "l1");
        Checks.due("one LANE alone is free", stone.duel(0, 0, 0, 1), HIDDEN);
        stone.weather(1, 2);
        Checks.due("at high water both", stone.duel(0, 0, 0, 1), 0);
    }

    private static void ladder() {
        Edge.of("Promise 41", "LADDER: how many (i NONE), the i-th STICK.");
        StickRace r = Checks.onBrook("4444;2222", "h9", "l1", "l3", "l1");
        Checks.due("how many", r.ladder(0, 15, 40, NONE), 3);
        int[] due = {1, 3, 0};
        for (int i = 0; i < 3; i++) {
            Checks.due("the " + i + "-th", r.ladder(0, 15, 40, i), due[i]);
        }
        Edge.of("Promise 41", "NONE: no such ones (bits, not 0).");
        for (int bad : new int[] {-2, 3, 10, MIN, MAX}) {
            Checks.due("i " + bad, r.ladder(0, 15, 1, bad), NONE);
        }
        for (int bad : new int[] {0, 16, 31, 1024, -1, MIN, MAX}) {
            Checks.due("STICKS " + bad, r.ladder(0, bad, 1, NONE), NONE);
        }
        for (int bad : new int[] {-1, 1, 6, MIN, MAX}) {
            Checks.due("BROOK " + bad, r.ladder(bad, 1, 1, NONE), NONE);
        }
        for (int n : NO_SEEDS) {
            Checks.due("n " + n, r.ladder(0, 1, n, NONE), NONE);
        }
        Checks.due("one that CAN lie nowhere: 0", r.ladder(0, 4, 1, NONE), 0);
        Checks.due("one that CAN lie nowhere: no first", r.ladder(0, 4, 1, 0), NONE);
        for (int s = 4; s < 10; s++) {
            Checks.stick(r, "h7");
        }
        Checks.due("all ten", r.ladder(0, 1023, 1, NONE), 9);
        Checks.due("the last of all", r.ladder(0, 1023, 1, 8), 0);
        Checks.due("an eleventh", r.ladder(0, 1024, 1, NONE), NONE);
        Checks.due("of a new object", new StickRace().ladder(0, 1, 1, NONE), NONE);
    }

    private static void reach() {
        Edge.of("Promise 42", "SPAN: the least (0), the most (1), MIDDLE (2).");
        StickRace r = Checks.onBrook("4@44;2222;o444", "l1", "l3", "l4");
        r.weather(2, 2);
        // 7, 14, 8, 7 TICKS with seeds 0 to 3.
        int[][] due = {{1, 7, 7, 7}, {2, 7, 14, 7}, {3, 7, 14, 8}, {4, 7, 14, 7}};
        for (int[] d : due) {
            for (int what = 0; what < 3; what++) {
                Checks.due("reach(0, 0, 0, " + d[0] + ", " + what + ")", r.reach(0, 0, 0, d[0], what), d[1 + what]);
            }
        }
        Edge.of("Promise 42", "NONE: it CAN not lie there, no such ones.");
        Checks.due("a STONE", r.reach(0, 0, 2, 1, 0), NONE);
        Checks.due("over a STONE", r.reach(0, 1, 0, 1, 0), NONE);
        Checks.due("too long", r.reach(0, 2, 0, 1, 0), NONE);
        for (int bad : new int[] {-1, 3, 6, MIN, MAX}) {
            Checks.due("y " + bad, r.reach(0, 0, bad, 1, 0), NONE);
        }
        for (int bad : new int[] {-1, 3, 10, MIN, MAX}) {
            Checks.due("STICK " + bad, r.reach(0, bad, 0, 1, 0), NONE);
            Checks.due("what " + bad, r.reach(0, 0, 0, 1, bad), NONE);
        }
        for (int bad : new int[] {-1, 1, 6, MIN, MAX}) {
            Checks.due("BROOK " + bad, r.reach(bad, 0, 0, 1, 0), NONE);
        }
        for (int n : NO_SEEDS) {
            Checks.due("n " + n, r.reach(0, 0, 0, n, 0), NONE);
        }
    }

    private static void close() {
        Edge.of("Promise 43", "CLOSE.");
        StickRace r = Checks.onBrook("4444;4444;2222", "l1");
        r.runner(0, 0);
        Edge.of("Promise 43", "NONE: fewer than two RUNNERS, one CAN not lie at its start now, no such n.");
        Checks.due("one RUNNER", r.close(1), NONE);
        Checks.due("no RUNNERS", new StickRace().close(1), NONE);
        r.runner(0, 1);
        for (int n : NO_SEEDS) {
            Checks.due("n " + n, r.close(n), NONE);
        }
        Checks.due("two RUNNERS, n 1", r.close(1), 1);
        Checks.due("two RUNNERS, n 40", r.close(40), 40);
        StickRace low = Checks.onBrook("o444;4444", "l1");
        low.weather(1, 2);
        low.runner(0, 0);
        low.runner(0, 1);
        Checks.due("at high water", low.close(1) != NONE, true);
        low.weather(1, 1);
        Checks.due("RUNNER 0 CAN not lie at its start now", low.close(1), NONE);
    }

    private static void count() {
        Edge.of("Promise 44", "0 BROOKS, 1 STICKS, 2 RUNNERS, 3 SIGHTS, 4 bytes of the TAPE, 5 TICKS of the RACE (NONE: "
            + "none started), 6 WIND, 7 HIGH, 8 HOLD.");
        StickRace r = new StickRace();
        int[] none = {0, 0, 0, 0, 0, NONE, 0, 0, 5};
        for (int what = 0; what <= 8; what++) {
            Checks.due("at first: count(" + what + ")", r.count(what), none[what]);
        }
        for (int b = 0; b < 6; b++) {
            Checks.brook(r, "444o;444o;444o;444o;444o;444o");
        }
        for (int s = 0; s < 10; s++) {
            Checks.stick(r, "l1");
            r.sight(s, 0, 4);
        }
        r.on(5);
        for (int y = 0; y < 6; y++) {
            r.runner(y, y);
        }
        Checks.due("none started", r.count(5), NONE);
        r.start(0L);
        Checks.due("at the START", r.count(5), 0);
        r.tick(60);
        Checks.feed(r, "x".repeat(160));
        r.weather(0, -3);
        r.weather(1, 3);
        r.weather(2, 0);
        int[] full = {6, 10, 6, 10, 160, 60, -3, 3, 0};
        for (int what = 0; what <= 8; what++) {
            Checks.due("full: count(" + what + ")", r.count(what), full[what]);
        }
        Edge.of("Promise 44", "HIDDEN for others.");
        for (int bad : new int[] {-1, 9, MIN, MAX}) {
            Checks.due("count(" + bad + ")", r.count(bad), HIDDEN);
            Checks.due("count(" + bad + ") of a new object", new StickRace().count(bad), HIDDEN);
        }
    }
}
