import java.math.BigInteger;

/** The document, sentence by sentence: part 2 of the terms, promises 11 to 17. */
final class EdgesOfRaces {
    private static final int NONE = Checks.NONE;
    private static final int HIDDEN = Checks.HIDDEN;
    private static final int MIN = Integer.MIN_VALUE;
    private static final int MAX = Integer.MAX_VALUE;
    private static final String[] BY_LENGTH = {"l1", "l2", "l3", "l4", "l5"};
    private static final long[] SEEDS = {0, 1, -1, 39, Long.MIN_VALUE, Long.MAX_VALUE, 0x8000000000000001L, 123456789012L};

    private EdgesOfRaces() {
    }

    static void all() {
        lanesOfAStick();
        whereItCanLie();
        runnersOnABrook();
        paces();
        pullByLength();
        pullByHeavy();
        order();
        eddies();
        oneDrawAlone();
        rest();
        waves();
        oneWaveAlone();
        waveOfLanes();
        steps();
        stepOrNot();
        strikes();
        strikesAside();
        wind();
        windAside();
        draws();
        lengthOfARace();
        places();
        on();
        runner();
        runnerRefused();
        start();
        startRefused();
        tick();
        look();
        pull();
        lies();
    }

    private static void looks(String when, StickRace r, int runner, int... due) {
        for (int what = 0; what < due.length; what++) {
            Checks.due(when + ": look(" + runner + ", " + what + ")", r.look(runner, what), due[what]);
        }
    }

    /** So many LANES alike. */
    private static String lanes(int n, String lane) {
        return (lane + ";").repeat(n - 1) + lane;
    }

    // ---- Terms 2 ----

    private static void lanesOfAStick() {
        Edge.of("Terms 2", "A STICK lies at x on LANES y .. y and LENGTH less 1.");
        StickRace r = Checks.onBrook(lanes(6, "4444"), BY_LENGTH);
        for (int length = 1; length <= 5; length++) {
            for (int y = 0; y <= 6 - length; y++) {
                r.on(0);
                Checks.due("RUNNER", r.runner(length - 1, y), 0);
                for (int lane = 0; lane < 6; lane++) {
                    int due = lane >= y && lane <= y + length - 1 ? 0 : NONE;
                    Checks.due("LENGTH " + length + " from " + y + " on LANE " + lane, r.lies(0, lane), due);
                }
            }
        }
    }

    private static void whereItCanLie() {
        Edge.of("Terms 2", "It CAN lie so, if these are in the BROOK, and, with HIGH 0 or 1, none of these CELLS is a STONE.");
        // A STONE on LANE x at x.
        for (int high = 0; high <= 3; high++) {
            StickRace r = Checks.onBrook("o44444;4o4444;44o444;444o44;4444o4;44444o", BY_LENGTH);
            r.weather(1, high);
            for (int length = 1; length <= 5; length++) {
                for (int y = 0; y < 6; y++) {
                    for (int x = 0; x < 6; x += 5 - 2 * (y % 2)) {
                        boolean within = y + length <= 6;
                        boolean stone = x >= y && x < y + length;
                        int due = within && (high >= 2 || !stone) ? 1 : 0;
                        Checks.due("HIGH " + high + ": can(0, l" + length + ", " + x + ", " + y + ")",
                            r.can(0, length - 1, x, y), due);
                    }
                }
            }
        }
    }

    private static void runnersOnABrook() {
        Edge.of("Terms 2", "RUNNERS (6 at most) on a BROOK: each a STICK at a y, at x 0; it CAN lie there, and no two are "
            + "on one CELL.");
        StickRace six = Checks.onBrook(lanes(6, "4444"), "l1", "l2", "l3", "l5");
        for (int i = 0; i < 6; i++) {
            Checks.due("RUNNER " + i, six.runner(0, 5 - i), i);
            looks("RUNNER " + i, six, i, 0, 5 - i, 0);
        }
        Checks.due("a seventh", six.runner(0, 0), NONE);
        Checks.due("six there are", six.count(2), 6);
        six.on(0);
        Checks.due("l3 at 1", six.runner(2, 1), 0);
        for (int y = 0; y < 6; y++) {
            Checks.due("l2 at " + y, six.runner(1, y), y == 4 ? 1 : NONE);
        }
        Checks.due("l1 in the LANE that is left", six.runner(0, 0), 2);
        StickRace stone = Checks.onBrook("o444;4444", "l1", "l2");
        Checks.due("on a STONE", stone.runner(0, 0), NONE);
        Checks.due("over a STONE", stone.runner(1, 0), NONE);
        stone.weather(1, 2);
        Checks.due("with HIGH 2", stone.runner(1, 0), 0);
    }

    private static void paces() {
        Edge.of("Terms 2", "PACE there of a CELL: its sign, an EDDY 1, and HIGH more; a STONE 1, whatever HIGH is.");
        StickRace r = new StickRace();
        Checks.brook(r, "123456789o@;11111111111");
        for (int high = 0; high <= 3; high++) {
            r.weather(1, high);
            for (int sign = 1; sign <= 9; sign++) {
                Checks.due(sign + " with HIGH " + high, r.pace(0, sign - 1, 0), sign + high);
            }
            Checks.due("a STONE with HIGH " + high, r.pace(0, 9, 0), 1);
            Checks.due("an EDDY with HIGH " + high, r.pace(0, 10, 0), 1 + high);
        }
    }

    private static void pullByLength() {
        Edge.of("Terms 2", "PULL of a RUNNER: of LENGTH 1, 2 the greatest PACE there of its CELLS, else the sum of these "
            + "by LENGTH, cut;");
        int[] paces = {2, 9, 1, 8, 3, 7};
        StickRace r = Checks.onBrook("2444;9444;1444;8444;3444;7444", BY_LENGTH);
        for (int length = 1; length <= 5; length++) {
            for (int y = 0; y + length <= 6; y++) {
                int most = 0;
                int sum = 0;
                for (int lane = y; lane < y + length; lane++) {
                    most = Math.max(most, paces[lane]);
                    sum += paces[lane];
                }
                r.on(0);
                r.runner(length - 1, y);
                Checks.due("PULL of l" + length + " at " + y, r.pull(0), length <= 2 ? most : sum / length);
            }
        }
        // With HIGH 2 an EDDY (3), a STONE (1) and a sign (6): 10 by 3, cut; of LENGTH 2 the EDDY's.
        StickRace wet = Checks.onBrook("@444;o444;4444", "l2", "l3");
        wet.weather(1, 2);
        wet.runner(1, 0);
        Checks.due("an EDDY, a STONE and a 4 with HIGH 2", wet.pull(0), 3);
        wet.on(0);
        wet.runner(0, 0);
        Checks.due("an EDDY and a STONE with HIGH 2", wet.pull(0), 3);
    }

    private static void pullByHeavy() {
        Edge.of("Terms 2", "less (HEAVY less 5) by 2, cut, with HEAVY above 5; 0 at least.");
        StickRace r = Checks.onBrook("1444;2444;9444", "h0", "h1", "h2", "h3", "h4", "h5", "h6", "h7", "h8", "h9");
        int[] less = {0, 0, 0, 0, 0, 0, 0, 1, 1, 2};
        int[] paces = {1, 2, 9};
        for (int heavy = 0; heavy <= 9; heavy++) {
            for (int y = 0; y < 3; y++) {
                r.on(0);
                r.runner(heavy, y);
                Checks.due("h" + heavy + " on a PACE of " + paces[y], r.pull(0), Math.max(0, paces[y] - less[heavy]));
            }
        }
        r.on(0);
        r.runner(9, 0);
        r.start(0L);
        Checks.due("0 at least: it stays for 60 TICKS", r.tick(60), 60);
        looks("0 at least", r, 0, 0, 0, 0);
    }

    private static void order() {
        Edge.of("Terms 2", "A TICK: the RUNNERS that are not OUT, the one with the greatest x at its beginning first (of "
            + "several the lowest number):");
        // RUNNER 1 is blown to LANE 0, one CELL ahead; as it goes first then, that CELL is free for RUNNER 0.
        StickRace ahead = Checks.onBrook("2444444;4444444", "l1", "f9");
        ahead.weather(0, -1);
        ahead.runner(0, 0);
        ahead.runner(1, 1);
        ahead.start(0L);
        ahead.tick(1);
        looks("one ahead", ahead, 1, 1, 0, 0);
        ahead.tick(1);
        looks("the one ahead goes first", ahead, 1, 2, 0, 0, NONE, 2, 0, 0);
        looks("then the other: 2 and 2 and a WAVE", ahead, 0, 1, 0, 1, NONE, 2, 0, 0);
        // All at x 0: RUNNER 0 goes first, RUNNER 1 finds LANE 1 taken at x 1, RUNNER 2 strikes nobody.
        StickRace level = Checks.onBrook("4444;4444;4444", "f9", "l1");
        level.weather(0, 1);
        level.runner(0, 0);
        level.runner(1, 1);
        level.runner(1, 2);
        level.start(0L);
        level.tick(1);
        looks("the lowest number first", level, 0, 1, 1, 0);
        looks("the next strikes it", level, 1, 0, 1, 0, NONE, 3, 0, 1);
        looks("the last", level, 2, 1, 2, 0);
        // Told the other way round: the one on LANE 1 goes on first, so LANE 1 is taken when WIND comes.
        StickRace other = Checks.onBrook("4444;4444;4444", "f9", "l1");
        other.weather(0, 1);
        other.runner(1, 1);
        other.runner(0, 0);
        other.start(0L);
        other.tick(1);
        looks("RUNNER 0 on LANE 1", other, 0, 1, 1, 0);
        looks("RUNNER 1 stays on LANE 0", other, 1, 1, 0, 0);
        // The one that is OUT makes no draw: RUNNER 1 has the draws of one alone then.
        StickRace out = Checks.onBrook("9999;@@@@", "l1");
        out.weather(2, 5);
        out.runner(0, 0);
        out.runner(0, 1);
        out.start(3L);
        for (int t = 1; t <= 20; t++) {
            int held = out.look(1, 5);
            boolean on = out.look(1, 3) == NONE;
            out.tick(1);
            Checks.due("held in TICK " + t, out.look(1, 5) - held, on && draw(3L, t) < 5 ? 1 : 0);
        }
    }

    /** The k-th draw of 10 of a seed, by numbers of any size. */
    private static int draw(long seed, int k) {
        BigInteger all = BigInteger.ONE.shiftLeft(64);
        BigInteger x = BigInteger.valueOf(seed).mod(all);
        for (int i = 0; i < k; i++) {
            x = x.multiply(new BigInteger("6364136223846793005")).add(new BigInteger("1442695040888963407")).mod(all);
        }
        return x.shiftRight(33).mod(BigInteger.TEN).intValue();
    }

    private static void eddies() {
        Edge.of("Terms 2", "(1) If a CELL it lies on is an EDDY, a draw of 10: if that is below HOLD, its REST becomes 0, "
            + "and its TICK is over.");
        for (int seed = 0; seed < 12; seed++) {
            int first = draw(seed, 1);
            for (int hold = 0; hold <= 10; hold++) {
                StickRace r = Checks.onBrook("@444;4444", "l1");
                r.weather(2, hold);
                r.runner(0, 0);
                r.start(seed);
                r.tick(1);
                int held = first < hold ? 1 : 0;
                looks("draw " + first + ", HOLD " + hold, r, 0, 0, 0, 1 - held, NONE, 1, held, 0);
            }
        }
        // REST 3, then held: it is 0; a STICK with a FEATHER is not blown aside in a TICK in which it is held.
        StickRace rest = Checks.onBrook("@444;4444", "f9");
        rest.weather(2, 0);
        rest.runner(0, 0);
        rest.start(0L);
        rest.tick(3);
        looks("HOLD 0 never holds", rest, 0, 0, 0, 3, NONE, 1, 0, 0);
        rest.weather(2, 10);
        rest.weather(0, 1);
        rest.tick(1);
        looks("HOLD 10 always does", rest, 0, 0, 0, 0, NONE, 1, 1, 0);
        rest.weather(2, 0);
        rest.tick(1);
        looks("not held: WIND too", rest, 0, 0, 1, 1, NONE, 1, 1, 0);
        StickRace high = Checks.onBrook("@444;4444", "l1");
        high.weather(1, 3);
        high.weather(2, 10);
        high.runner(0, 0);
        high.start(0L);
        high.tick(5);
        looks("an EDDY at high water too", high, 0, 0, 0, 0, NONE, 1, 5, 0);
    }

    /** However many EDDIES it lies on: held as the draws 1, 2, 3 .. of the seed tell. */
    private static void oneDrawAlone() {
        StickRace r = Checks.onBrook(lanes(3, "@@@@"), "l3");
        r.runner(0, 0);
        r.start(5L);
        int held = 0;
        for (int t = 1; t <= 20 && r.look(0, 3) == NONE; t++) {
            r.tick(1);
            held += draw(5L, t) < 5 ? 1 : 0;
            Checks.due("one draw for three EDDIES: held behind TICK " + t, r.look(0, 5), held);
        }
    }

    private static void rest() {
        Edge.of("Terms 2", "(2) Its REST (0 at first) is more by PULL,");
        StickRace r = Checks.onBrook("3111;1111", "l1");
        r.runner(0, 0);
        looks("as it was told", r, 0, 0, 0, 0);
        r.start(0L);
        looks("at the START", r, 0, 0, 0, 0);
        int[][] due = {{0, 3}, {1, 2}, {1, 3}, {2, 0}, {2, 1}};
        for (int t = 1; t <= 5; t++) {
            r.tick(1);
            looks("behind TICK " + t, r, 0, due[t - 1][0], 0, due[t - 1][1]);
        }
    }

    /** RUNNER 0 on LANE 0 and RUNNER 1 that WIND blows there ahead of it; REST of RUNNER 0 behind two TICKS. */
    private static void wave(String brook, int distance, int rest) {
        StickRace r = Checks.onBrook(brook, "l1", "f9");
        r.weather(0, -1);
        r.runner(0, 0);
        r.runner(1, 1);
        r.start(0L);
        r.tick(1);
        looks(brook + ": no WAVE on another LANE", r, 0, 0, 0, 1);
        r.tick(1);
        looks(brook + ": ahead", r, 1, distance, 0);
        looks(brook + ": " + distance + " CELLS behind it", r, 0, 0, 0, rest);
    }

    private static void waves() {
        Edge.of("Terms 2", "and by 1 if some other RUNNER, not OUT, is 1 or 2 CELLS further on than it");
        wave("11111111;44444444", 1, 3);
        wave("11111111;88888888", 2, 3);
        wave("11411111;88888888", 3, 2);
        wave("11811111;88888888", 4, 2);
        wave("14111111;44444444", 2, 3);
        wave("18111111;44444444", 3, 2);
        // OUT in TICK 2, from the last CELL but one: no WAVE behind it.
        StickRace out = Checks.onBrook("1181;8888", "l1", "f9");
        out.weather(0, -1);
        out.runner(0, 0);
        out.runner(1, 1);
        out.start(0L);
        out.tick(2);
        looks("OUT", out, 1, 4, 0, 0, 2, 0);
        looks("no WAVE of it", out, 0, 0, 0, 2);
        StickRace near = Checks.onBrook("4421;8888", "l1", "f9");
        near.weather(0, -1);
        near.runner(0, 0);
        near.runner(1, 1);
        near.start(0L);
        near.tick(1);
        looks("at x 2", near, 1, 2, 0, 0);
        looks("at x 1", near, 0, 1, 0, 0);
        near.tick(1);
        looks("REST 2", near, 1, 2, 0, 2);
        looks("4 and a WAVE, then a STRIKE", near, 0, 1, 1, 0, NONE, 2, 0, 1);
        // The one that is ahead has no WAVE of the one behind it.
        StickRace behind = Checks.onBrook("1111;4444", "l1", "f9");
        behind.weather(0, -1);
        behind.runner(0, 0);
        behind.runner(1, 1);
        behind.start(0L);
        behind.tick(2);
        looks("no WAVE of one that is behind", behind, 1, 1, 0, 1);
        for (int ahead = 0; ahead <= 5; ahead++) {
            waveOfRunner(ahead);
        }
    }

    /** Six RUNNERS; the one on LANE 5 goes on by one and is blown to LANE 4 in TICK 1, to LANE 3 in TICK 2. */
    private static void waveOfRunner(int ahead) {
        StickRace r = Checks.onBrook(lanes(5, "1111") + ";4444", "l1", "f9");
        r.weather(0, -1);
        for (int i = 0, y = 0; i <= 5; i++) {
            r.runner(i == ahead ? 1 : 0, i == ahead ? 5 : y);
            y += i == ahead ? 0 : 1;
        }
        r.start(0L);
        r.tick(1);
        int onLane3 = ahead <= 3 ? 4 : 3;
        int onLane4 = ahead <= 4 ? 5 : 4;
        looks("ahead as RUNNER " + ahead, r, ahead, 1, 4, 0);
        looks("a WAVE of RUNNER " + ahead + " for those behind it in the row", r, onLane4, 0, 4, ahead <= 4 ? 2 : 1);
        looks("no WAVE on LANE 3 yet", r, onLane3, 0, 3, 1);
        r.tick(1);
        looks("a WAVE of RUNNER " + ahead + " on LANE 3", r, onLane3, 0, 3, 3);
        looks("no WAVE on LANE 4 any more", r, onLane4, 0, 4, ahead <= 4 ? 3 : 2);
    }

    private static void waveOfLanes() {
        Edge.of("Terms 2", "and on one of its LANES (a WAVE).");
        for (int length = 1; length <= 5; length++) {
            // RUNNER 1 is blown one LANE up, one CELL ahead: to the last LANE of RUNNER 0, or beside it.
            for (int from = length; from <= length + 1 && from < 6; from++) {
                StickRace r = Checks.onBrook(lanes(length, "1111") + ";" + lanes(6 - length, "4111"),
                    BY_LENGTH[length - 1], "f9");
                r.weather(0, -1);
                r.runner(0, 0);
                r.runner(1, from);
                r.start(0L);
                r.tick(1);
                looks("one ahead", r, 1, 1, from - 1, 0);
                r.weather(0, 0);
                r.tick(1);
                looks("LENGTH " + length + ", ahead on LANE " + (from - 1), r, 0, 0, 0, from == length ? 3 : 2);
            }
        }
    }

    private static void oneWaveAlone() {
        // Behind TICK 2 RUNNER 2 is two on (LANE 2), RUNNER 1 one on (LANE 3): 1, then 1 and one WAVE alone.
        StickRace r = Checks.onBrook("8888;4411;1111;1111", "l2", "f9");
        r.weather(0, 1);
        r.runner(0, 2);
        r.runner(1, 1);
        r.runner(1, 0);
        r.start(0L);
        r.tick(2);
        looks("one ahead", r, 1, 1, 3, 2);
        looks("two ahead", r, 2, 2, 2, 1);
        looks("two RUNNERS ahead, one WAVE", r, 0, 0, 2, 3);
    }

    private static void steps() {
        Edge.of("Terms 2", "(3) As long as REST is 4 or more: REST is less by 4, and it goes on by one: if that is the "
            + "END it is OUT, in that TICK;");
        for (int high = 0; high <= 3; high++) {
            for (int sign = 1; sign <= 9; sign++) {
                StickRace r = Checks.onBrook(lanes(2, ("" + sign).repeat(5)), "l1");
                r.weather(1, high);
                r.runner(0, 1);
                r.start(0L);
                r.tick(1);
                looks("PULL " + (sign + high), r, 0, (sign + high) / 4, 1, (sign + high) % 4, NONE);
            }
        }
        // x 2 and 3, then 3 and 3 REST: 11, two steps: the second is the END of four CELLS.
        StickRace end = Checks.onBrook("9999;4444", "l1");
        end.runner(0, 0);
        end.runner(0, 1);
        end.start(0L);
        end.tick(1);
        looks("x 2 of four", end, 0, 2, 0, 1, NONE, 2);
        end.tick(1);
        looks("OUT in that TICK", end, 0, 4, 0, 2, 2, 0);
        end.tick(1);
        looks("on the last CELL", end, 1, 3, 1, 0, NONE, 2);
        end.tick(1);
        looks("one step from the last CELL", end, 1, 4, 1, 0, 4, 1);
    }

    private static void stepOrNot() {
        Edge.of("Terms 2", "if it CAN lie there, and no other RUNNER that is not OUT lies on one of these CELLS, it lies there;");
        for (int high = 0; high <= 3; high++) {
            for (int lane = 0; lane < 5; lane++) {
                // A STONE ahead on one LANE; the STICK of LENGTH 3 lies on LANES 1 to 3.
                StringBuilder brook = new StringBuilder();
                for (int y = 0; y < 5; y++) {
                    brook.append(y == 0 ? "" : ";").append(y == lane ? "4o44" : "4444");
                }
                StickRace r = Checks.onBrook(brook.toString(), "l3");
                r.weather(1, high);
                r.runner(0, 1);
                r.start(0L);
                r.tick(1);
                boolean bars = high < 2 && lane >= 1 && lane <= 3;
                Checks.due("HIGH " + high + ", a STONE on LANE " + lane + ": x", r.look(0, 0), bars ? 0 : 1);
                Checks.due("HIGH " + high + ", a STONE on LANE " + lane + ": strikes", r.look(0, 6), bars ? 1 : 0);
            }
        }
        StickRace side = Checks.onBrook("4444;4444;8888", "l2", "l1");
        side.runner(0, 0);
        side.runner(1, 2);
        side.start(0L);
        side.tick(2);
        looks("a RUNNER ahead on another LANE", side, 0, 2, 0, 0, NONE, 2, 0, 0);
        // RUNNER 1 lies ahead on a STONE that bars nobody with HIGH 3: it bars RUNNER 0 itself, in TICK 3.
        StickRace high = Checks.onBrook("oo44;1111", "l1", "f9");
        high.weather(1, 3);
        high.weather(0, -1);
        high.runner(0, 0);
        high.runner(1, 1);
        high.start(0L);
        high.tick(1);
        looks("ahead on a STONE", high, 1, 1, 0, 0);
        high.weather(0, 0);
        high.tick(1);
        looks("REST 1, 1 and a WAVE", high, 0, 0, 0, 3);
        high.tick(1);
        looks("a RUNNER bars, whatever HIGH is", high, 0, 0, 1, 0, NONE, 2, 0, 1);
        // RUNNER 1 is OUT from LANE 0, then RUNNER 0 from the same one.
        StickRace out = Checks.onBrook("4481;8888", "l1", "f9");
        out.weather(0, -1);
        out.runner(0, 0);
        out.runner(1, 1);
        out.start(0L);
        out.tick(3);
        looks("OUT from LANE 0", out, 1, 4, 0, 0, 2, 0);
        looks("OUT behind it", out, 0, 4, 0, 0, 3, 1, 0, 0);
    }

    /** A STICK on column x 0, STONES on the column ahead as bits of LANES. */
    private static void strike(int length, int y, int stones) {
        StringBuilder brook = new StringBuilder();
        for (int lane = 0; lane < 6; lane++) {
            brook.append(lane == 0 ? "" : ";").append((stones >> lane & 1) != 0 ? "4o44" : "4444");
        }
        StickRace r = Checks.onBrook(brook.toString(), BY_LENGTH[length - 1]);
        r.runner(0, y);
        r.start(0L);
        r.tick(1);
        int its = stones >> y & (1 << length) - 1;
        String call = "LENGTH " + length + " at " + y + ", STONES " + stones;
        if (its == 0) {
            looks(call + ": on", r, 0, 1, y, 0, NONE, 1, 0, 0);
            return;
        }
        int side = 2 * Integer.numberOfTrailingZeros(its) < length ? y + 1 : y - 1;
        looks(call, r, 0, 0, side >= 0 && side + length <= 6 ? side : y, 0, NONE, 1, 0, 1);
    }

    private static void strikes() {
        Edge.of("Terms 2", "else it STRIKES: of its LANES the lowest whose CELL there is a STONE that bars it or has a "
            + "RUNNER is s: "
            + "with 2 times (s less y) below its LENGTH it goes aside to y and 1 more, else to 1 less,");
        for (int length = 1; length <= 5; length++) {
            for (int y = 0; y + length <= 6; y++) {
                for (int stones = 0; stones < 64; stones++) {
                    strike(length, y, stones);
                }
            }
        }
        // The lower LANE has a RUNNER ahead, the upper one too, or one of them: RUNNERS 1 and 2 are blown there.
        int[][] due = {{4, -1, 3, 1}, {1, 1, 2, 3}};
        for (int[] d : due) {
            StickRace r = Checks.onBrook("4444;4444;2111;2111;4444;4444", "l2", "f9");
            r.weather(0, d[1]);
            r.runner(0, 2);
            r.runner(1, d[0]);
            r.start(0L);
            r.tick(1);
            r.weather(0, 0);
            Checks.due("a RUNNER ahead", r.lies(1, d[2]), 1);
            r.tick(1);
            looks("a RUNNER ahead on LANE " + d[2], r, 0, 0, d[3], 0, NONE, 2, 0, 1);
            Checks.due("the one that was struck", r.look(1, 0), 1);
            Checks.due("does not strike", r.look(1, 6), 0);
        }
    }

    private static void strikesAside() {
        Edge.of("Terms 2", "at its x, if it CAN lie there and no RUNNER is there; in any case its REST is 0 and its TICK "
            + "is over.");
        // A STONE aside; with HIGH 2 that STONE is none, but a RUNNER ahead still bars.
        StickRace stone = Checks.onBrook("9o99;o999", "l1");
        stone.runner(0, 0);
        stone.start(0L);
        stone.tick(1);
        looks("a STONE is aside", stone, 0, 0, 0, 0, NONE, 1, 0, 1);
        StickRace free = Checks.onBrook("9o99;9999", "l1");
        free.runner(0, 0);
        free.start(0L);
        free.tick(1);
        looks("none is aside: REST 0 of 9", free, 0, 0, 1, 0, NONE, 1, 0, 1);
        StickRace second = Checks.onBrook("99o9;9999", "f9");
        second.weather(0, 1);
        second.runner(0, 0);
        second.start(0L);
        second.tick(1);
        looks("at its x, in the second step; no WIND then", second, 0, 1, 1, 0, NONE, 1, 0, 1);
        StickRace taken = Checks.onBrook("9o99;1111;9999", "l1");
        taken.runner(0, 0);
        taken.runner(0, 1);
        taken.start(0L);
        taken.tick(1);
        looks("a RUNNER is aside", taken, 0, 0, 0, 0, NONE, 2, 0, 1);
        StickRace gone = Checks.onBrook("9o99;4444;9999", "l1");
        gone.runner(0, 1);
        gone.runner(0, 0);
        gone.start(0L);
        gone.tick(1);
        looks("that RUNNER has gone on", gone, 1, 0, 1, 0, NONE, 2, 0, 1);
        StickRace bank = Checks.onBrook("9999;9o99", "l1");
        bank.runner(0, 1);
        bank.start(0L);
        bank.tick(60);
        looks("the bank is aside", bank, 0, 0, 1, 0, NONE, 1, 0, 60);
        StickRace top = Checks.onBrook("9999;9o99", "l2");
        top.runner(0, 0);
        top.start(0L);
        top.tick(60);
        looks("less than 0 is no LANE", top, 0, 0, 0, 0, NONE, 1, 0, 60);
    }

    private static void wind() {
        Edge.of("Terms 2", "(4) With WIND unlike 0, if FEATHER times WIND (without sign) is 9 or more, and it is not OUT: "
            + "it goes aside one LANE (to greater y with WIND above 0),");
        for (int feather = 0; feather <= 9; feather++) {
            for (int wind = -3; wind <= 3; wind++) {
                StickRace r = Checks.onBrook(lanes(3, "1111"), "f" + feather);
                r.weather(0, wind);
                r.runner(0, 1);
                r.start(0L);
                r.tick(1);
                int blown = feather * Math.abs(wind) >= 9 ? Integer.signum(wind) : 0;
                looks("FEATHER " + feather + ", WIND " + wind, r, 0, 0, 1 + blown, 1);
            }
        }
        StickRace out = Checks.onBrook(lanes(3, "9999"), "f9");
        out.runner(0, 1);
        out.start(0L);
        out.tick(1);
        out.weather(0, 3);
        out.tick(1);
        looks("OUT in this TICK: not aside", out, 0, 4, 1, 2, 2);
        looks("a TICK later", out, 0, 4, 1);
    }

    private static void windAside() {
        Edge.of("Terms 2", "if it CAN lie there and no RUNNER is there.");
        for (int high = 0; high <= 3; high++) {
            StickRace stone = Checks.onBrook("4444;oooo", "f9");
            stone.weather(0, 1);
            stone.weather(1, high);
            stone.runner(0, 0);
            stone.start(0L);
            stone.tick(1);
            looks("STONES aside, HIGH " + high, stone, 0, 1, high < 2 ? 0 : 1, high);
        }
        for (int length = 1; length <= 5; length++) {
            for (int y = 0; y + length <= 6; y++) {
                for (int wind = -1; wind <= 1; wind += 2) {
                    StickRace r = Checks.onBrook(lanes(6, "1111"), "f9,l" + length);
                    r.weather(0, wind);
                    r.runner(0, y);
                    r.start(0L);
                    r.tick(1);
                    int to = y + wind;
                    Checks.due("LENGTH " + length + " at " + y + ", WIND " + wind, r.look(0, 1),
                        to >= 0 && to + length <= 6 ? to : y);
                }
            }
        }
        StickRace taken = Checks.onBrook("1111;1111;1111;1111", "f9,l2", "l1");
        taken.weather(0, 1);
        taken.runner(0, 0);
        taken.runner(1, 2);
        taken.start(0L);
        taken.tick(1);
        looks("a RUNNER is on one of its LANES there", taken, 0, 0, 0, 1);
        StickRace ahead = Checks.onBrook("1111;1111;4444;1111", "f9,l2", "l1");
        ahead.weather(0, 1);
        ahead.runner(1, 2);
        ahead.runner(0, 0);
        ahead.start(0L);
        ahead.tick(1);
        looks("that RUNNER has gone on", ahead, 1, 0, 1, 1);
    }

    private static void draws() {
        Edge.of("Terms 2", "A draw of 10: x, at first the seed, becomes x times 6364136223846793005 and 1442695040888963407 "
            + "(64 bits, going round); then (x shifted right by 33, without sign) modulo 10.");
        for (long seed : SEEDS) {
            for (int hold = 0; hold <= 10; hold += 1 + hold % 3) {
                StickRace r = Checks.onBrook("@@@@;@@@@", "l1");
                r.weather(2, hold);
                r.runner(0, 0);
                r.runner(0, 1);
                r.start(seed);
                int drawn = 0;
                for (int t = 1; t <= 12; t++) {
                    int[] due = {r.look(0, 5), r.look(1, 5)};
                    int first = r.look(1, 0) > r.look(0, 0) ? 1 : 0;
                    for (int i = 0; i < 2; i++) {
                        int runner = i == 0 ? first : 1 - first;
                        if (r.look(runner, 3) == NONE) {
                            drawn++;
                            due[runner] += draw(seed, drawn) < hold ? 1 : 0;
                        }
                    }
                    r.tick(1);
                    Checks.due("seed " + seed + ", HOLD " + hold + ", TICK " + t + ": RUNNER 0 held", r.look(0, 5), due[0]);
                    Checks.due("seed " + seed + ", HOLD " + hold + ", TICK " + t + ": RUNNER 1 held", r.look(1, 5), due[1]);
                }
            }
        }
    }

    private static void lengthOfARace() {
        Edge.of("Terms 2", "A RACE goes on till all are OUT, or 60 TICKS were.");
        StickRace out = Checks.onBrook("4444;1111", "l1");
        out.runner(0, 0);
        out.runner(0, 1);
        out.start(0L);
        Checks.due("till the last is OUT", out.tick(60), 16);
        Checks.due("no more", out.tick(60), 0);
        StickRace never = Checks.onBrook("444o;444o", "l2");
        never.runner(0, 0);
        never.start(0L);
        Checks.due("59", never.tick(59), 59);
        Checks.due("the 60th", never.tick(60), 1);
        Checks.due("no 61st", never.tick(1), 0);
        Checks.due("60 in all", never.count(5), 60);
        // OUT in TICK 60 itself, and not by TICK 60.
        StickRace last = Checks.onBrook("111111111111111;111111111111111", "l1");
        last.runner(0, 0);
        last.start(0L);
        Checks.due("60 TICKS", last.tick(60), 60);
        looks("OUT in TICK 60", last, 0, 15, 0, 0, 60, 0);
        StickRace late = Checks.onBrook("1111111111111111;1111111111111111", "l1");
        late.runner(0, 0);
        late.start(0L);
        late.tick(60);
        looks("on the last CELL behind TICK 60", late, 0, 15, 0, 0, NONE, 1);
        Checks.due("it stays there", late.tick(1), 0);
        Checks.due("its PACE is still told", late.pull(0), 1);
    }

    private static void places() {
        Edge.of("Terms 2", "PLACES: 0 for the one that was OUT first, and so on (of one TICK in the order in which they "
            + "went OUT); "
            + "those that are not OUT: how many RUNNERS there are.");
        // LANES 1 and 3 are OUT in TICK 4 (RUNNER 1 ahead of 2), LANE 0 in TICK 8, LANE 2 never.
        StickRace r = Checks.onBrook("2222;4444;444o;4444;o444", "l1", "l1,f0");
        r.runner(0, 0);
        r.runner(0, 3);
        r.runner(0, 1);
        r.start(0L);
        for (int i = 0; i < 3; i++) {
            Checks.due("at the START", r.look(i, 4), 3);
        }
        r.tick(3);
        Checks.due("not OUT", r.look(1, 4), 3);
        r.tick(1);
        int[] due = {3, 0, 1};
        for (int i = 0; i < 3; i++) {
            Checks.due("behind TICK 4", r.look(i, 4), due[i]);
        }
        r.tick(60);
        Checks.due("the last", r.look(0, 4), 2);
        // Of one TICK the one that is further on goes first, though its number is higher.
        StickRace far = Checks.onBrook("444949;449999", "l1");
        far.runner(0, 0);
        far.runner(0, 1);
        far.start(0L);
        far.tick(60);
        Checks.due("OUT in one TICK: RUNNER 0", far.look(0, 3), 5);
        Checks.due("the other is OUT first", far.look(1, 4), 0);
        StickRace six = Checks.onBrook(lanes(6, "444o"), "l1");
        for (int y = 5; y >= 0; y--) {
            six.runner(0, y);
        }
        six.start(0L);
        six.tick(60);
        for (int i = 0; i < 6; i++) {
            Checks.due("none of six is OUT", six.look(i, 4), 6);
        }
        StickRace all = Checks.onBrook(lanes(6, "4444"), "l1");
        for (int y = 5; y >= 0; y--) {
            all.runner(0, y);
        }
        all.start(0L);
        all.tick(4);
        for (int i = 0; i < 6; i++) {
            Checks.due("all six OUT in one TICK", all.look(i, 4), i);
        }
    }

    // ---- Promises 11 to 17 ----

    private static void on() {
        Edge.of("Promise 11", "A BROOK for RUNNERS; all that there were are gone.");
        StickRace r = Checks.onBrook("4444;4444", "l1");
        for (int b = 1; b < 6; b++) {
            Checks.brook(r, "44444;44444;44444");
        }
        r.runner(0, 1);
        Checks.due("on the last BROOK", r.on(5), true);
        Checks.due("no RUNNERS", r.count(2), 0);
        Checks.due("none lies there", r.lies(0, 1), NONE);
        Checks.due("a RUNNER on its third LANE", r.runner(0, 2), 0);
        r.start(0L);
        r.tick(60);
        Checks.due("on the first", r.on(0), true);
        Checks.due("no RACE", r.count(5), NONE);
        Checks.due("no RUNNERS", r.look(0, 0), HIDDEN);
        Checks.due("it has two LANES", r.runner(0, 2), NONE);
        Checks.due("it is as many as there are then", r.runner(0, 0), 0);
        for (int ticks = 0; ticks <= 8; ticks++) {
            allAreGone(ticks);
        }
        Edge.of("Promise 11", "False: no such BROOK.");
        for (int b : new int[] {-1, 6, 7, MIN, MAX}) {
            Checks.due("on(" + b + ")", r.on(b), false);
            Checks.due("the RUNNER is there still", r.lies(0, 0), 0);
        }
        Checks.due("of a new object", new StickRace().on(0), false);
    }

    /** Two RUNNERS behind a RACE of six that ran so many TICKS: what was before tells nothing of them. */
    private static void allAreGone(int ticks) {
        StickRace r = Checks.onBrook("2222;2222;9@99;4444;4o44;4444", "l1", "l2,f9");
        for (int i = 0; i < 6; i++) {
            r.runner(0, i == 0 ? 2 : i < 3 ? i - 1 : i);
        }
        r.start(4L);
        r.tick(ticks);
        r.odds(0, 9, 0);
        r.on(0);
        StickRace fresh = Checks.onBrook("2222;2222;9@99;4444;4o44;4444", "l1", "l2,f9");
        for (StickRace each : new StickRace[] {r, fresh}) {
            each.runner(1, 0);
            each.runner(0, 5);
            each.start(5L);
        }
        for (int t = 0; t <= 8; t++) {
            for (int i = 0; i < 2; i++) {
                for (int what = 0; what <= 6; what++) {
                    Checks.due("behind " + t + ", look(" + i + ", " + what + ")", r.look(i, what), fresh.look(i, what));
                }
                Checks.due("behind " + t + ", pull(" + i + ")", r.pull(i), fresh.pull(i));
            }
            Checks.due("behind " + t + ", leader(" + t + ")", r.leader(t), fresh.leader(t));
            r.tick(1);
            fresh.tick(1);
        }
        Checks.due("none of the six", r.look(2, 0), HIDDEN);
        for (int n : new int[] {1, 2, 40}) {
            Checks.due("close(" + n + ")", r.close(n), fresh.close(n));
            Checks.due("odds of the first over " + n, r.odds(0, n, 1), fresh.odds(0, n, 1));
            Checks.due("rounds of the second over " + n, r.rounds(1, n, 0), fresh.rounds(1, n, 0));
        }
    }

    private static void runner() {
        Edge.of("Promise 12", "A RUNNER: its number.");
        StickRace r = Checks.onBrook(lanes(6, "4444"), "l1", "l2", "l3");
        Checks.due("the first", r.runner(2, 3), 0);
        Checks.due("the second", r.runner(1, 0), 1);
        Checks.due("the third", r.runner(0, 2), 2);
        Checks.due("three there are", r.count(2), 3);
    }

    private static void runnerRefused() {
        Edge.of("Promise 12", "NONE: no BROOK told, it CAN not lie there, another one is there, no such ones, there are "
            + "six, a RACE was started.");
        StickRace r = new StickRace();
        Checks.brook(r, "4444;o444;4444");
        Checks.stick(r, "l1");
        Checks.stick(r, "l3");
        Checks.due("no BROOK told", r.runner(0, 0), NONE);
        Checks.due("by on(1) none is told either", r.on(1), false);
        Checks.due("no BROOK told", r.runner(0, 0), NONE);
        r.on(0);
        Checks.due("a STONE", r.runner(0, 1), NONE);
        Checks.due("too long for y 1", r.runner(1, 1), NONE);
        Checks.due("over a STONE", r.runner(1, 0), NONE);
        Checks.due("y 0", r.runner(0, 0), 0);
        Checks.due("another one is there", r.runner(0, 0), NONE);
        for (int y : new int[] {-1, 3, 6, 31, 32, MIN, MAX}) {
            Checks.due("y " + y, r.runner(0, y), NONE);
        }
        for (int s : new int[] {-1, 2, 10, MIN, MAX}) {
            Checks.due("STICK " + s, r.runner(s, 2), NONE);
        }
        Checks.due("one there is", r.count(2), 1);
        r.start(0L);
        Checks.due("a RACE was started", r.runner(0, 2), NONE);
        r.tick(60);
        Checks.due("it is over", r.runner(0, 2), NONE);
        r.on(0);
        Checks.due("taken again behind on()", r.runner(0, 2), 0);
        StickRace six = Checks.onBrook(lanes(6, "4444"), "l1");
        for (int y = 0; y < 6; y++) {
            Checks.due("RUNNER " + y, six.runner(0, y), y);
        }
        for (int y = 0; y < 6; y++) {
            Checks.due("there are six", six.runner(0, y), NONE);
        }
    }

    private static void start() {
        Edge.of("Promise 13", "A RACE starts (anew): all RUNNERS as they were told, REST 0.");
        StickRace r = Checks.onBrook("4o44@4;444444;333333", "l1", "f9");
        r.weather(0, -1);
        r.weather(2, 10);
        r.runner(0, 0);
        r.runner(1, 2);
        for (long seed : SEEDS) {
            Checks.due("start(" + seed + ")", r.start(seed), true);
            Checks.due("TICKS", r.count(5), 0);
            looks("as told", r, 0, 0, 0, 0, NONE, 2, 0, 0);
            looks("as told", r, 1, 0, 2, 0, NONE, 2, 0, 0);
            Checks.due("none struck", r.struck(NONE), NONE);
            Checks.due("nothing behind TICK 1", r.was(0, 1, 0), NONE);
            r.tick(9);
            Checks.due("it struck", r.look(0, 6), 1);
        }
        Checks.due("as often as one likes", r.start(0L), true);
        StickRace held = Checks.onBrook("@444;4444", "l1");
        held.weather(2, 10);
        held.runner(0, 0);
        for (int n = 1; n <= 3; n++) {
            held.start(n);
            held.tick(n);
            looks("held in each TICK", held, 0, 0, 0, 0, NONE, 1, n, 0);
        }
        held.start(0L);
        looks("anew, not held yet", held, 0, 0, 0, 0, NONE, 1, 0, 0);
    }

    private static void startRefused() {
        Edge.of("Promise 13", "False: no RUNNERS, one CAN not lie there now.");
        Checks.due("a new object", new StickRace().start(0L), false);
        StickRace r = Checks.onBrook("o444;4444", "l1");
        Checks.due("no RUNNERS", r.start(0L), false);
        Checks.due("none was started", r.count(5), NONE);
        r.weather(1, 2);
        r.runner(0, 1);
        r.runner(0, 0);
        r.weather(1, 1);
        Checks.due("HIGH 1: one CAN not lie there now", r.start(0L), false);
        Checks.due("none was started", r.count(5), NONE);
        r.weather(1, 3);
        Checks.due("HIGH 3: it CAN", r.start(0L), true);
        r.tick(1);
        r.weather(1, 0);
        String before = Checks.state(r);
        Checks.due("HIGH 0 in the RACE: not anew", r.start(Long.MAX_VALUE), false);
        Checks.unchanged("start()", r, before);
        Checks.due("it goes on", r.tick(60) > 0, true);
        r.on(0);
        Checks.due("no RUNNERS behind on()", r.start(0L), false);
    }

    private static void tick() {
        Edge.of("Promise 14", "TICKS (1 .. 60), as long as the RACE goes on: how many of these there were in this call.");
        StickRace r = Checks.onBrook("1111111111111111;1111111111111111", "l1");
        r.runner(0, 0);
        r.start(0L);
        Checks.due("60 of 60", r.tick(60), 60);
        Checks.due("none is left", r.tick(1), 0);
        r.start(0L);
        for (int n = 1; n <= 10; n++) {
            Checks.due("tick(" + n + ")", r.tick(n), n);
        }
        Checks.due("55 in all", r.count(5), 55);
        Checks.due("five of six", r.tick(6), 5);
        StickRace out = Checks.onBrook("4444;4444", "l1");
        out.runner(0, 0);
        out.start(0L);
        Checks.due("one", out.tick(1), 1);
        Checks.due("three of four", out.tick(4), 3);
        Checks.due("all are OUT", out.tick(4), 0);
        Checks.due("four in all", out.count(5), 4);
        Edge.of("Promise 14", "NONE: none was started, out of bounds.");
        for (int n : new int[] {0, 61, -1, MIN, MAX}) {
            Checks.due("tick(" + n + ")", r.tick(n), NONE);
            Checks.due("tick(" + n + ") with all OUT", out.tick(n), NONE);
        }
        Checks.due("of a new object", new StickRace().tick(1), NONE);
        out.on(0);
        Checks.due("no RUNNERS", out.tick(1), NONE);
        out.runner(0, 0);
        Checks.due("none was started", out.tick(1), NONE);
        Checks.due("none was started, and out of bounds", out.tick(0), NONE);
    }

    private static void look() {
        Edge.of("Promise 15", "Of a RUNNER: 0 x (CELLS, if OUT), 1 y, 2 REST, 3 the TICK in which it went OUT (NONE), 4 "
            + "its PLACE, "
            + "5 how often it was held, 6 how often it STRUCK.");
        // RUNNER 0 strikes at x 0 in TICK 1, to LANE 1; there an EDDY at x 1 holds it. RUNNER 1 has PACE 3.
        StickRace r = Checks.onBrook("4o444;4@444;33333", "l1");
        r.weather(2, 10);
        r.runner(0, 0);
        r.runner(0, 2);
        looks("told", r, 0, 0, 0, 0, NONE, 2, 0, 0);
        r.start(0L);
        r.tick(1);
        looks("struck", r, 0, 0, 1, 0, NONE, 2, 0, 1);
        looks("REST", r, 1, 0, 2, 3, NONE, 2, 0, 0);
        r.tick(3);
        looks("held", r, 0, 1, 1, 0, NONE, 2, 2, 1);
        r.tick(56);
        looks("held to the end", r, 0, 1, 1, 0, NONE, 2, 58, 1);
        looks("OUT: x is CELLS", r, 1, 5, 2, 1, 7, 0, 0, 0);
        Edge.of("Promise 15", "HIDDEN: no such ones.");
        for (int bad : new int[] {-1, 2, 6, MIN, MAX}) {
            Checks.due("RUNNER " + bad, r.look(bad, 0), HIDDEN);
        }
        for (int bad : new int[] {-1, 7, MIN, MAX}) {
            Checks.due("what " + bad, r.look(0, bad), HIDDEN);
        }
        Checks.due("of a new object", new StickRace().look(0, 0), HIDDEN);
        r.on(0);
        Checks.due("RUNNERS that are gone", r.look(0, 0), HIDDEN);
    }

    private static void pull() {
        Edge.of("Promise 16", "PULL of a RUNNER as it lies.");
        StickRace r = Checks.onBrook("4159;2222", "l1");
        r.runner(0, 0);
        Checks.due("as told", r.pull(0), 4);
        r.start(0L);
        r.tick(1);
        Checks.due("at x 1", r.pull(0), 1);
        r.weather(1, 3);
        Checks.due("with HIGH as it is now", r.pull(0), 4);
        r.weather(1, 0);
        r.tick(4);
        Checks.due("at x 2", r.pull(0), 5);
        r.tick(1);
        Checks.due("on the last CELL", r.pull(0), 9);
        Edge.of("Promise 16", "NONE: no such one, OUT.");
        for (int bad : new int[] {-1, 1, 6, MIN, MAX}) {
            Checks.due("RUNNER " + bad, r.pull(bad), NONE);
        }
        r.tick(1);
        Checks.due("it is OUT", r.look(0, 0), 4);
        Checks.due("OUT", r.pull(0), NONE);
        Checks.due("of a new object", new StickRace().pull(0), NONE);
    }

    private static void lies() {
        Edge.of("Promise 17", "Which RUNNER lies on a CELL.");
        StickRace r = Checks.onBrook(lanes(6, "4444"), "l1", "l5");
        r.runner(0, 5);
        r.runner(1, 0);
        for (int lane = 0; lane < 6; lane++) {
            Checks.due("LANE " + lane, r.lies(0, lane), lane == 5 ? 0 : 1);
        }
        r.start(0L);
        r.tick(3);
        for (int lane = 0; lane < 6; lane++) {
            Checks.due("on the last CELL, LANE " + lane, r.lies(3, lane), lane == 5 ? 0 : 1);
        }
        Edge.of("Promise 17", "NONE: none, no such CELL.");
        Checks.due("none at x 0", r.lies(0, 0), NONE);
        int[][] none = {{4, 0}, {-1, 0}, {3, 6}, {3, -1}, {16, 0}, {MIN, 0}, {MAX, 0}, {3, MIN}, {3, MAX}, {3, 32}, {3, 37}};
        for (int[] n : none) {
            Checks.due("lies(" + n[0] + ", " + n[1] + ")", r.lies(n[0], n[1]), NONE);
        }
        r.tick(1);
        Checks.due("OUT", r.lies(3, 5), NONE);
        Checks.due("OUT: the END is no CELL", r.lies(4, 5), NONE);
        Checks.due("of a new object", new StickRace().lies(0, 0), NONE);
    }
}
